/-! ===== more calls that ask of costs and sets ===== -/
section COPS2
variable {V V' σ σ' : Mem} {c : Nat → Int} {t k j l p s fu : Nat} {a b v r : Int}
def chz (V : Mem) (L : List (Int × Nat)) : Nat → Mem
  | 0 => emp V
  | k + 1 => psh (chz V L k) ((gtL L k).2 : Int)
theorem chz_19 {L : List (Int × Nat)} : ∀ k : Nat, chz V L k 328 19 = (k : Int) := by
  intro k
  induction k with
  | zero => exact emp_19
  | succ k ih => simp only [chz]; rw [psh_19, ih]; omega
theorem chz_ag {L : List (Int × Nat)} : ∀ k : Nat, AgN V (chz V L k) := by
  intro k
  induction k with
  | zero => exact emp_ag
  | succ k ih => exact ih.trans psh_ag
theorem chz_ok {L : List (Int × Nat)} (h : OkA t V) : ∀ k : Nat, k ≤ 12 → OkA t (chz V L k) := by
  intro k
  induction k with
  | zero => intro _; exact emp_ok h
  | succ k ih => intro hk; exact psh_ok (ih (by omega)) (by rw [chz_19]; omega)
theorem c_takenLines (ok : OkN V) (hfu : 1000 < fu) (hT : TakS V c σ s) : wp (fX4_takenLines fu (283 + 4 * s) σ) (fun r σ' => r = tlm (tk V c s) (tk V c s).length ∧ σ = σ') := by
  have hlen := tk_len (c := c) (s := s) ok
  unfold fX4_takenLines
  refine for2 (f := fX4_takenLines_L4 fu (283 + 4 * s) _) (tk V c s).length (fun i x s' => x = tlm (tk V c s) i ∧ σ = s') ?_ ?_ (i := 0) ⟨rfl, rfl⟩
  · rintro n i x s' hi ⟨rfl, rfl⟩ hrec
    rw [fX4_takenLines_L4, hT.1]
    refine iLe (fun h => by omega) (fun _ => ?_)
    refine rI i rfl (by omega) ?_
    rw [(hT.2.2 i hi).1]
    exact wp_lt (hrec _ _ ⟨rfl, rfl⟩)
  · rintro n x s' ⟨rfl, rfl⟩
    rw [fX4_takenLines_L4, hT.1]
    exact iLe (fun _ => wp_some ⟨rfl, rfl⟩) (fun h => by omega)
theorem c_isTaken (ok : OkN V) (hfu : 1000 < fu) (hC : Cls V σ) (hD : CostC V σ) (hl : l < nn V) (hp : p < ln V l) : wp (fX2_isTaken fu (l : Int) (p : Int) σ) (fun r σ' => r = inL (tk V (cv V) (sp V l p)) l (tk V (cv V) (sp V l p)).length ∧ σ = σ') := by
  have hn := ok.n
  have h8 := ok.len hl
  have hst := ok.st hl hp
  unfold fX2_isTaken
  refine wp_rfd (rR l rfl (by omega) ?_)
  rw [show pl (σ (pl (σ 136 0)) l) = PL σ l from rfl]
  refine rI p rfl (by omega) ?_
  rw [(hC.ln hl).2.2.2.2.2.1 p hp]
  refine rS (sp V l p) hst.1.symm hst.2 ?_
  refine wp_bnd (fun r σ' => r = inL (tk V (cv V) (sp V l p)) l (tk V (cv V) (sp V l p)).length ∧ σ = σ') ?_ ?_
  · unfold fX4_takes
    refine wp_bnd _ (c_takenLines ok hfu (hD.1 _ hst.2).2) ?_
    rintro x s' ⟨rfl, rfl⟩
    have hb := tlm_bit (L := tk V (cv V) (sp V l p)) (l := l) (by omega) (tk V (cv V) (sp V l p)).length (fun i hi => by
      have := (tk_line ok (fun s => (cv_b ok s).1) hi).1
      omega)
    have h01 := inL_01 (L := tk V (cv V) (sp V l p)) (l := l) (tk V (cv V) (sp V l p)).length
    rw [hb]
    refine wp_jn (iNe (fun h => wp_rtz (Or.inl rfl) ⟨by omega, rfl⟩) (fun h => wp_rtz (Or.inr rfl) ⟨by omega, rfl⟩))
  · rintro x s' ⟨rfl, rfl⟩
    exact wp_rtz (inL_01 _) ⟨rfl, rfl⟩
theorem r_isInSet (ok : OkN V) (hfu : 1000 < fu) (hS : SetS V c σ s) (hs : s < 10) (hl : l < 12) (hb : ∀ s, -1 ≤ c s) : wp (fX7_isInSet fu (l : Int) (s : Int) σ) (fun r σ' => r = inL (tk V c s) l (tk V c s).length ∧ σ = σ') := by
  have hlen := tk_len (c := c) (s := s) ok
  have hn := ok.n
  unfold fX7_isInSet
  refine for1 (f := fX7_isInSet_L2 fu (l : Int) (s : Int) _ _) (tk V c s).length (fun i s' => inL (tk V c s) l i = 0 ∧ σ = s') ?_ ?_ (i := 0) ⟨rfl, rfl⟩
  · rintro n i s' hi ⟨j1, rfl⟩ hrec
    have hx := (tk_line ok hb hi).1
    rw [fX7_isInSet_L2]
    refine rI s rfl hs ?_
    rw [hS.1]
    refine iLe (fun h => by omega) (fun _ => ?_)
    refine rI (12 * s + i) (by omega) (by omega) ?_
    rw [hS.2.2 i hi]
    refine iNe (fun h => hrec _ ⟨?_, rfl⟩) (fun h => wp_rtz (Or.inr rfl) ⟨?_, rfl⟩)
    · simp only [inL]; rw [if_neg (by omega)]; exact j1
    · exact (inL_found (by omega) _ hi).symm
  · rintro n s' ⟨j1, rfl⟩
    rw [fX7_isInSet_L2]
    refine rI s rfl hs ?_
    rw [hS.1]
    exact iLe (fun _ => wp_rtz (Or.inl rfl) ⟨j1.symm, rfl⟩) (fun h => by omega)
theorem op_chosen (h : OkA t V) (hfu : 1000 < fu) (ha : R32 a) : Op t V (fX6_chosen fu a) (fX7_chosen fu a) := by
  by_cases hc : 0 ≤ a ∧ a < 10
  · obtain ⟨s, rfl⟩ := Int.eq_ofNat_of_zero_le hc.1
    have hs : s < 10 := by omega
    have hlen := tk_len (c := cv V) (s := s) h.1
    have hn := h.1.n
    have hlin : ∀ i, i < (tk V (cv V) s).length → (gtL (tk V (cv V) s) i).2 < 12 := fun i hi => by
      have := (tk_line h.1 (fun s => (cv_b h.1 s).1) hi).1
      omega
    refine ⟨tlm (tk V (cv V) s) (tk V (cv V) s).length, chz V (tk V (cv V) s) (tk V (cv V) s).length, (chz_ok h _ hlen).up, fun σ hC => ?_, fun σ hR => ?_⟩
    · unfold fX6_chosen
      refine wp_bnd _ (c_isStop fu σ ha) ?_
      rintro x s' ⟨h0, h1, rfl⟩
      refine iNe0 (fun _ => ?_) (fun h => by omega)
      refine wp_bnd _ (c_find h hfu hC) ?_
      intro _ s2 ⟨d1, d2, d3, d4⟩
      have hT := (d1.1 s hs).2
      refine rS s rfl hs ?_
      refine wp_bnd _ (c_empty fu h.1 d2) ?_
      intro _ s3 ⟨e1, e2, e3⟩
      refine for1 (f := fX6_chosen_L35 fu (283 + 4 * s) _) (tk V (cv V) s).length (fun i s4 => ClsA (chz V (tk V (cv V) s) i) s4 ∧ Hi σ s4 ∧ ∀ k j, k ≠ 323 → k ≠ 324 → s4 k j = s2 k j) ?_ ?_ (i := 0) ⟨e1, d3.trans e2, fun k j hk _ => e3 k j hk⟩
      · intro n i s4 hi ⟨j1, j2, j3⟩ hrec
        have := hlin i hi
        rw [fX6_chosen_L35, j3 _ _ (by omega) (by omega), hT.1]
        refine iLe (fun h => by omega) (fun _ => ?_)
        refine rI i rfl (by omega) ?_
        rw [j3 _ _ (by omega) (by omega), (hT.2.2 i hi).1, w32_sm (by omega) (by omega)]
        refine wp_bnd _ (c_put fu ((chz_ag i).ok h.1) (by rw [chz_19]; omega) j1) ?_
        intro _ s5 ⟨q1, q2, q3⟩
        exact hrec s5 ⟨q1, j2.trans q2, fun k j h1 h2 => (q3 k j h1 h2).trans (j3 k j h1 h2)⟩
      · intro n s4 ⟨j1, j2, j3⟩
        rw [fX6_chosen_L35, j3 _ _ (by omega) (by omega), hT.1]
        refine iLe (fun _ => ?_) (fun h => by omega)
        have hT4 : TakS V (cv V) s4 s := hT.mv (j3 _ _ (by omega) (by omega)) (j3 _ _ (by omega) (by omega)) (fun k j h1 h2 => j3 k j (by omega) (by omega))
        refine wp_bnd _ (c_takenLines h.1 hfu hT4) ?_
        rintro x s' ⟨rfl, rfl⟩
        exact wp_some ⟨rfl, j1, j2⟩
    · unfold fX7_chosen
      refine wp_stf ?_
      refine wp_bnd _ (r_isStop fu _ ha) ?_
      rintro x s' ⟨h0, h1, rfl⟩
      refine iNe0 (fun _ => ?_) (fun h => by omega)
      refine wp_bnd _ (r_lays h hfu hR.s20) ?_
      intro _ s2 ⟨d1, d2, d3, d4⟩
      have hS := (d1.1 s hs).2
      refine wp_stf ?_
      have hE := r_emp d2
      have hlo : Lo σ (mset s2 328 19 0) := (lo20 σ 0).trans (lo19 d3 0)
      have hfr : ∀ k j, k ≠ 341 → ¬ (k = 328 ∧ j = 19) → mset s2 328 19 0 k j = s2 k j := fun k j _ h2 => by rw [mset_eq, if_neg h2]
      generalize mset s2 328 19 0 = s3 at *
      refine for2 (f := fX7_chosen_L27 fu (s : Int) _) (tk V (cv V) s).length (fun i x s4 => x = tlm (tk V (cv V) s) i ∧ RefA (chz V (tk V (cv V) s) i) s4 ∧ Lo σ s4 ∧ ∀ k j, k ≠ 341 → ¬ (k = 328 ∧ j = 19) → s4 k j = s2 k j) ?_ ?_ (i := 0) ⟨rfl, hE, hlo, hfr⟩
      · rintro n i x s4 hi ⟨rfl, j1, j2, j3⟩ hrec
        have := hlin i hi
        rw [fX7_chosen_L27]
        refine rI s rfl hs ?_
        rw [j3 _ _ (by omega) (by omega), hS.1]
        refine iLe (fun h => by omega) (fun _ => ?_)
        refine rI (12 * s + i) (by omega) (by omega) ?_
        rw [j3 _ _ (by omega) (by omega), hS.2.2 i hi]
        refine wp_lt (rI (12 * s + i) (by omega) (by omega) ?_)
        rw [j3 _ _ (by omega) (by omega), hS.2.2 i hi, w32_sm (by omega) (by omega)]
        refine wp_bnd _ (r_tell fu (by rw [chz_19]; omega) j1) ?_
        intro _ s5 ⟨q1, q2, q3⟩
        exact hrec _ s5 ⟨rfl, q1, j2.trans q2, fun k j h1 h2 => (q3 k j h1 h2).trans (j3 k j h1 h2)⟩
      · rintro n x s4 ⟨rfl, j1, j2, j3⟩
        rw [fX7_chosen_L27]
        refine rI s rfl hs ?_
        rw [j3 _ _ (by omega) (by omega), hS.1]
        exact iLe (fun _ => wp_some ⟨rfl, j1, j2⟩) (fun h => by omega)
  · refine op_same h (-1) (fun σ hC => ?_) (fun σ hR => ?_)
    · unfold fX6_chosen
      refine wp_bnd _ (c_isStop fu σ ha) ?_
      rintro x s' ⟨h0, h1, rfl⟩
      exact iNe0 (fun _ => by omega) (fun h => wp_some ⟨rfl, CP.refl σ⟩)
    · unfold fX7_chosen
      refine wp_stf ?_
      refine wp_bnd _ (r_isStop fu _ ha) ?_
      rintro x s' ⟨h0, h1, rfl⟩
      exact iNe0 (fun _ => by omega) (fun h => wp_some ⟨rfl, rp20 σ 0⟩)
theorem op_aboard (h : OkA t V) (hfu : 1000 < fu) (ha : R32 a) (hb : R32 b) : Op t V (fX6_aboard fu a b) (fX7_aboard fu a b) := by
  have hn := h.1.n
  by_cases hc : 0 ≤ a ∧ a < V 328 9 ∧ 0 ≤ b ∧ b < V 330 a.toNat
  · obtain ⟨l, rfl⟩ := Int.eq_ofNat_of_zero_le hc.1
    obtain ⟨p, rfl⟩ := Int.eq_ofNat_of_zero_le hc.2.2.1
    have hl : l < nn V := by omega
    rw [Int.toNat_natCast] at hc
    have h8 := h.1.len hl
    have hp : p < ln V l := by omega
    have hv1 := ahv_ge h.1 (fun s => (cv_b h.1 s).1) l p
    have hv2 := ahv_le h.1 hl (M := 17800000) (by omega) (fun s => (cv_b h.1 s).2) p
    have hal := alv_01 (V := V) (c := cv V) (l := l) (p := p)
    by_cases hd : 0 ≤ ahv V (cv V) l p
    · refine ⟨ahv V (cv V) l p, row1 V (alv V (cv V) l p), (row1_ok h).up, fun σ hC => ?_, fun σ hR => ?_⟩
      · unfold fX6_aboard
        refine wp_bnd _ (c_hasHalt h.1 hC.1 ha hb) ?_
        rintro x s' ⟨h0, h1, rfl⟩
        rw [Int.toNat_natCast] at h1
        refine iNe0 (fun _ => ?_) (fun h => by omega)
        refine wp_bnd _ (c_find h hfu hC) ?_
        intro _ s2 ⟨d1, d2, d3, d4⟩
        have hRd := d1.2.1 l hl p hp
        have hP := d2.1.isL h.1 hl
        refine wp_rfd (rR l rfl (by omega) ?_)
        rw [show pl (s2 (pl (s2 136 0)) l) = PL s2 l from rfl]
        refine rI p rfl (by omega) ?_
        rw [hRd.1]
        refine iNe (fun _ => ?_) (fun h => by omega)
        refine rI p rfl (by omega) ?_
        rw [hRd.2.2]
        refine wp_bnd _ (c_bit fu s2 hal) ?_
        rintro x s' ⟨rfl, rfl⟩
        rw [w32_sm (by omega) (by omega)]
        refine wp_bnd _ (c_putOne fu h.1 d2) ?_
        intro _ s3 ⟨q1, q2, q3⟩
        refine rI p rfl (by omega) ?_
        exact wp_some ⟨by rw [q3 _ _ (by omega) (by omega)]; exact hRd.1, q1, d3.trans q2⟩
      · unfold fX7_aboard
        refine wp_stf ?_
        refine wp_bnd _ (r_isHalt h.1 hR.s20.1 ha hb) ?_
        rintro x s' ⟨h0, h1, rfl⟩
        rw [Int.toNat_natCast] at h1
        refine iNe0 (fun _ => ?_) (fun h => by omega)
        refine wp_bnd _ (r_lays h hfu hR.s20) ?_
        intro _ s2 ⟨d1, d2, d3, d4⟩
        have hA := d1.2.1 l hl p hp
        unfold fX7_at
        refine wp_bs ?_
        refine rI (8 * l + p) (by omega) (by omega) ?_
        rw [hA.1]
        refine jLe (fun _ => ?_) (fun h => by omega)
        refine wp_stf ?_
        refine wp_bs ?_
        refine rI (8 * l + p) (by omega) (by omega) ?_
        rw [ms_k (by omega), hA.2]
        refine wp_ji (fun x s' => x = alv V (cv V) l p ∧ mset s2 328 19 0 = s') ?_ ?_
        · rintro x s' ⟨rfl, rfl⟩
          refine wp_bnd _ (r_tell fu (by rw [emp_19]; omega) (r_emp d2)) ?_
          intro _ s3 ⟨q1, q2, q3⟩
          refine wp_bs ?_
          refine rI (8 * l + p) (by omega) (by omega) ?_
          rw [q3 _ _ (by omega) (by omega), ms_k (by omega)]
          exact wp_some ⟨hA.1, q1, ((lo20 σ 0).trans (lo19 d3 0)).trans q2⟩
        · intro j hj
          exact iEq0 (fun h => hj _ _ ⟨h.symm, rfl⟩) (fun h => hj _ _ ⟨by omega, rfl⟩)
    · refine op_same h (-2) (fun σ hC => ?_) (fun σ hR => ?_)
      · unfold fX6_aboard
        refine wp_bnd _ (c_hasHalt h.1 hC.1 ha hb) ?_
        rintro x s' ⟨h0, h1, rfl⟩
        rw [Int.toNat_natCast] at h1
        refine iNe0 (fun _ => ?_) (fun h => by omega)
        refine wp_bnd _ (c_find h hfu hC) ?_
        intro _ s2 ⟨d1, d2, d3, d4⟩
        refine wp_rfd (rR l rfl (by omega) ?_)
        rw [show pl (s2 (pl (s2 136 0)) l) = PL s2 l from rfl]
        refine rI p rfl (by omega) ?_
        rw [(d1.2.1 l hl p hp).1]
        exact iNe (fun _ => by omega) (fun h => wp_some ⟨rfl, d4⟩)
      · unfold fX7_aboard
        refine wp_stf ?_
        refine wp_bnd _ (r_isHalt h.1 hR.s20.1 ha hb) ?_
        rintro x s' ⟨h0, h1, rfl⟩
        rw [Int.toNat_natCast] at h1
        refine iNe0 (fun _ => ?_) (fun h => by omega)
        refine wp_bnd _ (r_lays h hfu hR.s20) ?_
        intro _ s2 ⟨d1, d2, d3, d4⟩
        unfold fX7_at
        refine wp_bs ?_
        refine rI (8 * l + p) (by omega) (by omega) ?_
        rw [(d1.2.1 l hl p hp).1]
        exact jLe (fun _ => by omega) (fun h => wp_some ⟨rfl, (rp20 σ 0).trans d4⟩)
  · refine op_same h (-1) (fun σ hC => ?_) (fun σ hR => ?_)
    · unfold fX6_aboard
      refine wp_bnd _ (c_hasHalt h.1 hC.1 ha hb) ?_
      rintro x s' ⟨h0, h1, rfl⟩
      exact iNe0 (fun _ => by omega) (fun h => wp_some ⟨rfl, CP.refl σ⟩)
    · unfold fX7_aboard
      refine wp_stf ?_
      refine wp_bnd _ (r_isHalt h.1 hR.s20.1 ha hb) ?_
      rintro x s' ⟨h0, h1, rfl⟩
      exact iNe0 (fun _ => by omega) (fun h => wp_some ⟨rfl, rp20 σ 0⟩)
theorem op_boarding (h : OkA t V) (hfu : 1000 < fu) (ha : R32 a) (hb : R32 b) : Op t V (fX6_boarding fu a b) (fX7_boarding fu a b) := by
  have hn := h.1.n
  by_cases hc : 0 ≤ a ∧ a < V 328 9 ∧ 0 ≤ b ∧ b < V 330 a.toNat - 1
  · obtain ⟨l, rfl⟩ := Int.eq_ofNat_of_zero_le hc.1
    obtain ⟨p, rfl⟩ := Int.eq_ofNat_of_zero_le hc.2.2.1
    have hl : l < nn V := by omega
    rw [Int.toNat_natCast] at hc
    have h8 := h.1.len hl
    have hp : p + 1 < ln V l := by omega
    have hv1 := bda_ge (c := cv V) h.1 l p
    have hv2 := bda_le h.1 hl (M := 17800000) (by omega) (fun s => (cv_b h.1 s).2) p
    have hcb : ∀ s, -1 ≤ cv V s ∧ cv V s ≤ 20000000 := fun s => by have := cv_b h.1 s; omega
    have hst := h.1.st hl (show p < ln V l by omega)
    have h01 := inL_01 (L := tk V (cv V) (sp V l p)) (l := l) (tk V (cv V) (sp V l p)).length
    by_cases hd : 0 ≤ bda V (cv V) l p
    · refine ⟨bda V (cv V) l p, row1 V (inL (tk V (cv V) (sp V l p)) l (tk V (cv V) (sp V l p)).length), (row1_ok h).up, fun σ hC => ?_, fun σ hR => ?_⟩
      · unfold fX6_boarding
        refine wp_bnd _ (c_hasStep h.1 hC.1 ha hb) ?_
        rintro x s' ⟨h0, h1, rfl⟩
        rw [Int.toNat_natCast] at h1
        refine iNe0 (fun _ => ?_) (fun h => by omega)
        refine wp_bnd _ (c_find h hfu hC) ?_
        intro _ s2 ⟨d1, d2, d3, d4⟩
        have hRd := d1.2.1 l hl p (by omega)
        have hP := d2.1.isL h.1 hl
        refine wp_rfd (rR l rfl (by omega) ?_)
        rw [show pl (s2 (pl (s2 136 0)) l) = PL s2 l from rfl]
        refine rI p rfl (by omega) ?_
        rw [hRd.2.1]
        refine iNe (fun _ => ?_) (fun h => by omega)
        refine wp_bnd _ (c_isTaken h.1 hfu d2.1 d1 hl (by omega)) ?_
        rintro x s' ⟨rfl, rfl⟩
        refine wp_bnd _ (c_bit fu s2 h01) ?_
        rintro x s' ⟨rfl, rfl⟩
        rw [w32_sm (by omega) (by omega)]
        refine wp_bnd _ (c_putOne fu h.1 d2) ?_
        intro _ s3 ⟨q1, q2, q3⟩
        refine rI p rfl (by omega) ?_
        exact wp_some ⟨by rw [q3 _ _ (by omega) (by omega)]; exact hRd.2.1, q1, d3.trans q2⟩
      · unfold fX7_boarding
        refine wp_stf ?_
        refine wp_bnd _ (r_isStep h.1 hR.s20.1 ha hb) ?_
        rintro x s' ⟨h0, h1, rfl⟩
        rw [Int.toNat_natCast] at h1
        refine iNe0 (fun _ => ?_) (fun h => by omega)
        refine wp_bnd _ (r_lays h hfu hR.s20) ?_
        intro _ s2 ⟨d1, d2, d3, d4⟩
        refine wp_bnd _ (r_bAt h.1 hl d2.1 hp hcb (d1.2.1 l hl (p + 1) hp).1) ?_
        rintro x s' ⟨rfl, rfl⟩
        refine jLe (fun _ => ?_) (fun h => by omega)
        refine wp_stf ?_
        have hE := r_emp d2
        unfold fX7_at
        refine wp_bs ?_
        refine rI (8 * l + p) (by omega) (by omega) ?_
        rw [ms_k (by omega), d2.1.2 331 _ (by omega) (by omega), ← hst.1]
        have hS : SetS V (cv V) (mset s2 328 19 0) (sp V l p) := ((d1.1 _ hst.2).2).mv h.1 (ms_k (by omega)) (ms_k (by omega)) (fun j _ _ => ms_k (by omega))
        refine wp_bnd _ (r_isInSet h.1 hfu hS hst.2 (by omega) (fun s => (hcb s).1)) ?_
        rintro x s' ⟨rfl, rfl⟩
        refine wp_ji (fun x s' => x = inL (tk V (cv V) (sp V l p)) l (tk V (cv V) (sp V l p)).length ∧ mset s2 328 19 0 = s') ?_ ?_
        · rintro x s' ⟨rfl, rfl⟩
          refine wp_bnd _ (r_tell fu (by rw [emp_19]; omega) hE) ?_
          intro _ s3 ⟨q1, q2, q3⟩
          have hR3 : Ref V s3 := by
            refine ⟨fun j hj => ?_, fun k j h1 h2 => ?_⟩
            · rw [q3 _ _ (by omega) (by omega), ms_j (by omega)]; exact d2.1.1 j hj
            · rw [q3 _ _ (by omega) (by omega), ms_k (by omega)]; exact d2.1.2 k j h1 h2
          refine wp_bnd _ (r_bAt h.1 hl hR3 hp hcb (by rw [q3 _ _ (by omega) (by omega), ms_k (by omega)]; exact (d1.2.1 l hl (p + 1) hp).1)) ?_
          rintro x s' ⟨rfl, rfl⟩
          exact wp_some ⟨rfl, q1, ((lo20 σ 0).trans (lo19 d3 0)).trans q2⟩
        · intro j hj
          exact iEq0 (fun h => hj _ _ ⟨h.symm, rfl⟩) (fun h => hj _ _ ⟨by omega, rfl⟩)
    · refine op_same h (-2) (fun σ hC => ?_) (fun σ hR => ?_)
      · unfold fX6_boarding
        refine wp_bnd _ (c_hasStep h.1 hC.1 ha hb) ?_
        rintro x s' ⟨h0, h1, rfl⟩
        rw [Int.toNat_natCast] at h1
        refine iNe0 (fun _ => ?_) (fun h => by omega)
        refine wp_bnd _ (c_find h hfu hC) ?_
        intro _ s2 ⟨d1, d2, d3, d4⟩
        refine wp_rfd (rR l rfl (by omega) ?_)
        rw [show pl (s2 (pl (s2 136 0)) l) = PL s2 l from rfl]
        refine rI p rfl (by omega) ?_
        rw [(d1.2.1 l hl p (by omega)).2.1]
        exact iNe (fun _ => by omega) (fun h => wp_some ⟨rfl, d4⟩)
      · unfold fX7_boarding
        refine wp_stf ?_
        refine wp_bnd _ (r_isStep h.1 hR.s20.1 ha hb) ?_
        rintro x s' ⟨h0, h1, rfl⟩
        rw [Int.toNat_natCast] at h1
        refine iNe0 (fun _ => ?_) (fun h => by omega)
        refine wp_bnd _ (r_lays h hfu hR.s20) ?_
        intro _ s2 ⟨d1, d2, d3, d4⟩
        refine wp_bnd _ (r_bAt h.1 hl d2.1 hp hcb (d1.2.1 l hl (p + 1) hp).1) ?_
        rintro x s' ⟨rfl, rfl⟩
        exact jLe (fun _ => by omega) (fun h => wp_some ⟨rfl, (rp20 σ 0).trans d4⟩)
  · refine op_same h (-1) (fun σ hC => ?_) (fun σ hR => ?_)
    · unfold fX6_boarding
      refine wp_bnd _ (c_hasStep h.1 hC.1 ha hb) ?_
      rintro x s' ⟨h0, h1, rfl⟩
      exact iNe0 (fun _ => by omega) (fun h => wp_some ⟨rfl, CP.refl σ⟩)
    · unfold fX7_boarding
      refine wp_stf ?_
      refine wp_bnd _ (r_isStep h.1 hR.s20.1 ha hb) ?_
      rintro x s' ⟨h0, h1, rfl⟩
      exact iNe0 (fun _ => by omega) (fun h => wp_some ⟨rfl, rp20 σ 0⟩)
theorem op_slack (h : OkA t V) (hfu : 1000 < fu) (ha : R32 a) (hb : R32 b) : Op t V (fX6_slack fu a b) (fX7_slack fu a b) := by
  have hn := h.1.n
  have hgl := h.1.go
  by_cases hc : 0 ≤ a ∧ a < V 328 9 ∧ 0 ≤ b ∧ b < V 330 a.toNat - 1
  · obtain ⟨l, rfl⟩ := Int.eq_ofNat_of_zero_le hc.1
    obtain ⟨p, rfl⟩ := Int.eq_ofNat_of_zero_le hc.2.2.1
    have hl : l < nn V := by omega
    rw [Int.toNat_natCast] at hc
    have h8 := h.1.len hl
    have hp : p + 1 < ln V l := by omega
    have hv1 := bda_ge (c := cv V) h.1 l p
    have hv2 := bda_le h.1 hl (M := 17800000) (by omega) (fun s => (cv_b h.1 s).2) p
    have hcb : ∀ s, -1 ≤ cv V s ∧ cv V s ≤ 20000000 := fun s => by have := cv_b h.1 s; omega
    have hst := h.1.st hl (show p < ln V l by omega)
    have hcs := cv_b h.1 (sp V l p)
    have h01 := inL_01 (L := tk V (cv V) (sp V l p)) (l := l) (tk V (cv V) (sp V l p)).length
    have h337 := (h.1.ok hl).2.2.2.2.1
    refine op_same h (if bda V (cv V) l p < 0 ∨ cv V (sp V l p) < 0 ∨ sp V l p = gl V ∨ V 337 l ≠ 0 then -2 else if inL (tk V (cv V) (sp V l p)) l (tk V (cv V) (sp V l p)).length = 0 then bda V (cv V) l p - cv V (sp V l p) + 1 else 0) (fun σ hC => ?_) (fun σ hR => ?_)
    · unfold fX6_slack
      refine wp_bnd _ (c_hasStep h.1 hC.1 ha hb) ?_
      rintro x s' ⟨h0, h1, rfl⟩
      rw [Int.toNat_natCast] at h1
      refine iNe0 (fun _ => ?_) (fun h => by omega)
      refine wp_bnd _ (c_find h hfu hC) ?_
      intro _ s2 ⟨d1, d2, d3, d4⟩
      have hRd := d1.2.1 l hl p (by omega)
      have hP := d2.1.isL h.1 hl
      have hL := d2.1.ln hl
      refine wp_rfd (rR l rfl (by omega) ?_)
      rw [show pl (s2 (pl (s2 136 0)) l) = PL s2 l from rfl]
      refine rI p rfl (by omega) ?_
      rw [hL.2.2.2.2.2.1 p (by omega)]
      refine rS (sp V l p) hst.1.symm hst.2 (wp_lt ?_)
      refine rI p rfl (by omega) ?_
      rw [hRd.2.1, (d1.1 _ hst.2).1, hL.2.2.2.2.1, ← hst.1]
      refine wp_jn ?_
      refine iEq (fun g => wp_some ⟨by rw [if_pos (by omega)], d4⟩) (fun g1 => ?_)
      refine iEq (fun g => wp_some ⟨by rw [if_pos (by omega)], d4⟩) (fun g2 => ?_)
      rw [d2.1.2.2.2.1]
      refine iEq (fun g => wp_some ⟨by rw [if_pos (by omega)], d4⟩) (fun g3 => ?_)
      refine iEq0 (fun g4 => ?_) (fun g => wp_some ⟨by rw [if_pos (by omega)], d4⟩)
      rw [if_neg (by omega)]
      refine wp_bnd _ (c_isTaken h.1 hfu d2.1 d1 hl (by omega)) ?_
      rintro x s' ⟨rfl, rfl⟩
      refine wp_jn (iEq0 (fun g => ?_) (fun g => wp_some ⟨by rw [if_neg g], d4⟩))
      refine rI p rfl (by omega) ?_
      rw [hRd.2.1]
      exact wp_some ⟨by rw [if_pos g], d4⟩
    · unfold fX7_slack
      refine wp_stf ?_
      refine wp_bnd _ (r_isStep h.1 hR.s20.1 ha hb) ?_
      rintro x s' ⟨h0, h1, rfl⟩
      rw [Int.toNat_natCast] at h1
      refine iNe0 (fun _ => ?_) (fun h => by omega)
      refine wp_bnd _ (r_lays h hfu hR.s20) ?_
      intro _ s2 ⟨d1, d2, d3, d4⟩
      have hrp := (rp20 σ 0).trans d4
      unfold fX7_at
      refine wp_bs ?_
      refine rI (8 * l + p) (by omega) (by omega) ?_
      rw [d2.1.2 331 _ (by omega) (by omega), ← hst.1]
      refine wp_bnd _ (r_bAt h.1 hl d2.1 hp hcb (d1.2.1 l hl (p + 1) hp).1) ?_
      rintro x s' ⟨rfl, rfl⟩
      refine wp_jn ?_
      refine jLt (fun g => wp_some ⟨by rw [if_pos (by omega)], hrp⟩) (fun g1 => ?_)
      refine rI (sp V l p) rfl hst.2 ?_
      rw [(d1.1 _ hst.2).1]
      refine jLt (fun g => wp_some ⟨by rw [if_pos (by omega)], hrp⟩) (fun g2 => ?_)
      rw [d2.1.j (by omega)]
      refine iEq (fun g => wp_some ⟨by rw [if_pos (by omega)], hrp⟩) (fun g3 => ?_)
      refine rI l rfl (by omega) ?_
      rw [d2.1.2 337 _ (by omega) (by omega)]
      refine iEq0 (fun g4 => ?_) (fun g => wp_some ⟨by rw [if_pos (by omega)], hrp⟩)
      rw [if_neg (by omega)]
      refine wp_bnd _ (r_isInSet h.1 hfu (d1.1 _ hst.2).2 hst.2 (by omega) (fun s => (hcb s).1)) ?_
      rintro x s' ⟨rfl, rfl⟩
      refine wp_jn (iEq0 (fun g => ?_) (fun g => wp_some ⟨by rw [if_neg g], hrp⟩))
      refine wp_bnd _ (r_bAt h.1 hl d2.1 hp hcb (d1.2.1 l hl (p + 1) hp).1) ?_
      rintro x s' ⟨rfl, rfl⟩
      refine rI (sp V l p) rfl hst.2 ?_
      rw [(d1.1 _ hst.2).1]
      exact wp_some ⟨by rw [if_pos g]; omega, hrp⟩
  · refine op_same h (-1) (fun σ hC => ?_) (fun σ hR => ?_)
    · unfold fX6_slack
      refine wp_bnd _ (c_hasStep h.1 hC.1 ha hb) ?_
      rintro x s' ⟨h0, h1, rfl⟩
      exact iNe0 (fun _ => by omega) (fun h => wp_some ⟨rfl, CP.refl σ⟩)
    · unfold fX7_slack
      refine wp_stf ?_
      refine wp_bnd _ (r_isStep h.1 hR.s20.1 ha hb) ?_
      rintro x s' ⟨h0, h1, rfl⟩
      exact iNe0 (fun _ => by omega) (fun h => wp_some ⟨rfl, rp20 σ 0⟩)
end COPS2
