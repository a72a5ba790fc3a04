/-! ===== calls that ask of loads ===== -/
noncomputable def ldv (V : Mem) : Mem := lds V (cv V) (V 338) (od V (cv V)).length
def fuF (X : Mem) (l : Nat) : Nat → Nat
  | 0 => 0
  | p + 1 => if X 356 (8 * l + fuF X l p) < X 356 (8 * l + p) then p else fuF X l p
def scn (X : Mem) (l b : Nat) : Nat → Nat
  | 0 => b
  | p + 1 => if X 356 (scn X l b p) < X 356 (8 * l + p) then 8 * l + p else scn X l b p
def bst (V X : Mem) : Nat → Nat
  | 0 => 0
  | l + 1 => scn X l (bst V X l) (ln V l - 1)
section LOPS
variable {V V' σ σ' X : Mem} {c rid : Nat → Int} {t k j l p s P fu : Nat} {a b v r : Int}
theorem rid_b (ok : OkN V) : ∀ s, s < 10 → 0 ≤ V 338 s ∧ V 338 s ≤ 9999 := fun s hs => (ok.2.2.2.2.1 s hs).1
theorem ldsv_b (ok : OkN V) (hr : ∀ s, s < 10 → 0 ≤ rid s ∧ rid s ≤ 9999) (k j : Nat) : 0 ≤ lds V (cv V) rid (od V (cv V)).length k j ∧ lds V (cv V) rid (od V (cv V)).length k j ≤ 10230000 := by
  have h1 := lds_b ok (cv_ok ok) (fun s hs => cv_fix ok hs) hr (od V (cv V)).length (Nat.le_refl _) k j
  have h2 := bk_le (od V (cv V)).length (odk_len (V := V) (c := cv V) (k := 10))
  omega
theorem ldv_b (ok : OkN V) (k j : Nat) : 0 ≤ ldv V k j ∧ ldv V k j ≤ 10230000 := ldsv_b ok (rid_b ok) k j
theorem FrLo.cp (h : FrLo σ σ') : CP σ σ' := by
  intro k j
  have := h k j
  omega
theorem c_spreadA (h : OkA t V) (hfu : 1000 < fu) (hC : ClsA V σ) (hD : CostC V σ) : wp (fX2_spreadLoads fu σ) (fun _ σ' => LdC V (ldv V) σ' ∧ ClsA V σ' ∧ FrLo σ σ') :=
  wp_imp (c_spread (rid := V 338) h.1 hfu ⟨hC.1.1, hC.1.2.1, hC.1.2.2.2.1, fun s hs => (hC.1.2.2.2.2.2.2.1 s hs).1, hC.1.2.2.2.2.2.2.2⟩ ⟨hD.1, hD.2.1⟩ (cv_ok h.1) (fun s hs => cv_fix h.1 hs) (rid_b h.1)) (fun _ _ g => ⟨g.1, hC.mv h.1 g.2.1.cp, g.2.1⟩)
theorem c_loads (h : OkA t V) (hfu : 1000 < fu) (hC : ClsA V σ) : wp (fX2_findLoads fu σ) (fun _ σ' => LdC V (ldv V) σ' ∧ ClsA V σ' ∧ Hi σ σ' ∧ CP σ σ') := by
  unfold fX2_findLoads
  refine wp_bnd _ (c_find h hfu hC) ?_
  intro _ s2 ⟨d1, d2, d3, d4⟩
  refine wp_bnd _ (c_spreadA h hfu d2 d1) ?_
  intro _ s3 ⟨e1, e2, e3⟩
  exact wp_some ⟨e1, e2, (d4.trans e3.cp).hi, d4.trans e3.cp⟩
theorem r_loads (h : OkA t V) (hfu : 1000 < fu) (hR : RefA V σ) : wp (fX7_laysLoads fu σ) (fun _ σ' => LdR (ldv V) σ' ∧ CostR V σ' ∧ RefA V σ' ∧ Lo σ σ' ∧ RP σ σ') :=
  wp_imp (r_laysLoads (rid := V 338) h.1 hfu hR.1 h.2.1 hR.2.1 (rid_b h.1)) (fun _ _ g => ⟨g.1, g.2.1, hR.mv g.2.2.2, g.2.2.2.lo, g.2.2.2⟩)
theorem op_load (h : OkA t V) (hfu : 1000 < fu) (ha : R32 a) (hb : R32 b) : Op t V (fX6_load fu a b) (fX7_load fu a b) := by
  have hn := h.1.n
  by_cases hc : 0 ≤ a ∧ a < V 328 9 ∧ 0 ≤ b ∧ b < V 330 a.toNat - 1
  · obtain ⟨l, rfl⟩ := Int.eq_ofNat_of_zero_le hc.1
    obtain ⟨p, rfl⟩ := Int.eq_ofNat_of_zero_le hc.2.2.1
    have hl : l < nn V := by omega
    rw [Int.toNat_natCast] at hc
    have h8 := h.1.len hl
    refine op_same h (ldv V 356 (8 * l + p)) (fun σ hC => ?_) (fun σ hR => ?_)
    · unfold fX6_load
      refine wp_bnd _ (c_hasStep h.1 hC.1 ha hb) ?_
      rintro x s' ⟨h0, h1, rfl⟩
      rw [Int.toNat_natCast] at h1
      refine iNe0 (fun _ => ?_) (fun h => by omega)
      refine wp_bnd _ (c_loads h hfu hC) ?_
      intro _ s2 ⟨d1, d2, d3, d4⟩
      refine wp_rfd (rR l rfl (by omega) ?_)
      refine rI p rfl (by omega) ?_
      exact wp_some ⟨(d1.1 l hl p (by omega)).1, d4⟩
    · unfold fX7_load
      refine wp_stf ?_
      refine wp_bnd _ (r_isStep h.1 hR.s20.1 ha hb) ?_
      rintro x s' ⟨h0, h1, rfl⟩
      rw [Int.toNat_natCast] at h1
      refine iNe0 (fun _ => ?_) (fun h => by omega)
      refine wp_bnd _ (r_loads h hfu hR.s20) ?_
      intro _ s2 ⟨d1, d2, d3, d4, d5⟩
      unfold fX7_at
      refine wp_bs ?_
      refine rI (8 * l + p) (by omega) (by omega) ?_
      exact wp_some ⟨(d1.1 (8 * l + p) (by omega)).1, (rp20 σ 0).trans d5⟩
  · refine op_same h (-1) (fun σ hC => ?_) (fun σ hR => ?_)
    · unfold fX6_load
      refine wp_bnd _ (c_hasStep h.1 hC.1 ha hb) ?_
      rintro x s' ⟨h0, h1, rfl⟩
      exact iNe0 (fun _ => by omega) (fun h => wp_some ⟨rfl, CP.refl σ⟩)
    · unfold fX7_load
      refine wp_stf ?_
      refine wp_bnd _ (r_isStep h.1 hR.s20.1 ha hb) ?_
      rintro x s' ⟨h0, h1, rfl⟩
      exact iNe0 (fun _ => by omega) (fun h => wp_some ⟨rfl, rp20 σ 0⟩)
theorem op_passes (h : OkA t V) (hfu : 1000 < fu) (ha : R32 a) : Op t V (fX6_passes fu a) (fX7_passes fu a) := by
  by_cases hc : 0 ≤ a ∧ a < 10
  · obtain ⟨s, rfl⟩ := Int.eq_ofNat_of_zero_le hc.1
    have hs : s < 10 := by omega
    have hb := ldv_b h.1 359 s
    have hr := rid_b h.1 s hs
    refine ⟨V 338 s + ldv V 359 s, row1 V (ldv V 359 s), (row1_ok h).up, fun σ hC => ?_, fun σ hR => ?_⟩
    · unfold fX6_passes
      refine wp_bnd _ (c_isStop fu σ ha) ?_
      rintro x s' ⟨h0, h1, rfl⟩
      refine iNe0 (fun _ => ?_) (fun h => by omega)
      refine wp_bnd _ (c_loads h hfu hC) ?_
      intro _ s2 ⟨d1, d2, d3, d4⟩
      refine rS s rfl hs ?_
      rw [d1.2 s hs, w32_sm (by omega) (by omega)]
      refine wp_bnd _ (c_putOne fu h.1 d2) ?_
      intro _ s3 ⟨q1, q2, q3⟩
      rw [q3 _ _ (by omega) (by omega), q3 _ _ (by omega) (by omega), d1.2 s hs, (d2.1.2.2.2.2.2.2.1 s hs).1]
      exact wp_some ⟨rfl, q1, d3.trans q2⟩
    · unfold fX7_passes
      refine wp_stf ?_
      refine wp_bnd _ (r_isStop fu _ ha) ?_
      rintro x s' ⟨h0, h1, rfl⟩
      refine iNe0 (fun _ => ?_) (fun h => by omega)
      refine wp_bnd _ (r_loads h hfu hR.s20) ?_
      intro _ s2 ⟨d1, d2, d3, d4, d5⟩
      refine wp_stf ?_
      refine rI s rfl hs ?_
      rw [ms_k (by omega), d1.2 s hs]
      refine wp_bnd _ (r_tell fu (by rw [emp_19]; omega) (r_emp d3)) ?_
      intro _ s3 ⟨q1, q2, q3⟩
      refine rI s rfl hs (rI s rfl hs ?_)
      rw [q3 _ _ (by omega) (by omega), q3 _ _ (by omega) (by omega), ms_k (by omega), ms_k (by omega), d3.2.1 s hs, d1.2 s hs, w32_sm (by omega) (by omega)]
      exact wp_some ⟨rfl, q1, ((lo20 σ 0).trans (lo19 d4 0)).trans q2⟩
  · refine op_same h (-1) (fun σ hC => ?_) (fun σ hR => ?_)
    · unfold fX6_passes
      refine wp_bnd _ (c_isStop fu σ ha) ?_
      rintro x s' ⟨h0, h1, rfl⟩
      exact iNe0 (fun _ => by omega) (fun h => wp_some ⟨rfl, CP.refl σ⟩)
    · unfold fX7_passes
      refine wp_stf ?_
      refine wp_bnd _ (r_isStop fu _ ha) ?_
      rintro x s' ⟨h0, h1, rfl⟩
      exact iNe0 (fun _ => by omega) (fun h => wp_some ⟨rfl, rp20 σ 0⟩)
theorem op_boardings (h : OkA t V) (hfu : 1000 < fu) (ha : R32 a) (hb : R32 b) : Op t V (fX6_boardings fu a b) (fX7_boardings fu a b) := by
  have hn := h.1.n
  by_cases hc : 0 ≤ a ∧ a < V 328 9 ∧ 0 ≤ b ∧ b < V 330 a.toNat
  · obtain ⟨l, rfl⟩ := Int.eq_ofNat_of_zero_le hc.1
    obtain ⟨p, rfl⟩ := Int.eq_ofNat_of_zero_le hc.2.2.1
    have hl : l < nn V := by omega
    rw [Int.toNat_natCast] at hc
    have h8 := h.1.len hl
    have hbd := ldv_b h.1 358 (8 * l + p)
    refine ⟨ldv V 357 (8 * l + p), row1 V (ldv V 358 (8 * l + p)), (row1_ok h).up, fun σ hC => ?_, fun σ hR => ?_⟩
    · unfold fX6_boardings
      refine wp_bnd _ (c_hasHalt h.1 hC.1 ha hb) ?_
      rintro x s' ⟨h0, h1, rfl⟩
      rw [Int.toNat_natCast] at h1
      refine iNe0 (fun _ => ?_) (fun h => by omega)
      refine wp_bnd _ (c_loads h hfu hC) ?_
      intro _ s2 ⟨d1, d2, d3, d4⟩
      have hP := d2.1.isL h.1 hl
      have hT := d2.1.1.1
      refine wp_rfd (rR l rfl (by omega) ?_)
      rw [show pl (s2 (pl (s2 136 0)) l) = PL s2 l from rfl]
      refine rI p rfl (by omega) ?_
      rw [(d1.1 l hl p (by omega)).2.2, w32_sm (by omega) (by omega)]
      refine wp_bnd _ (c_putOne fu h.1 d2) ?_
      intro _ s3 ⟨q1, q2, q3⟩
      refine wp_rfd (rR l rfl (by omega) ?_)
      rw [q3 136 0 (by omega) (by omega), q3 (pl (s2 136 0)) l (by omega) (by omega), show pl (s2 (pl (s2 136 0)) l) = PL s2 l from rfl]
      refine rI p rfl (by omega) ?_
      rw [q3 _ _ (by omega) (by omega)]
      exact wp_some ⟨(d1.1 l hl p (by omega)).2.1, q1, d3.trans q2⟩
    · unfold fX7_boardings
      refine wp_stf ?_
      refine wp_bnd _ (r_isHalt h.1 hR.s20.1 ha hb) ?_
      rintro x s' ⟨h0, h1, rfl⟩
      rw [Int.toNat_natCast] at h1
      refine iNe0 (fun _ => ?_) (fun h => by omega)
      refine wp_bnd _ (r_loads h hfu hR.s20) ?_
      intro _ s2 ⟨d1, d2, d3, d4, d5⟩
      refine wp_stf ?_
      unfold fX7_at
      refine wp_bs ?_
      refine rI (8 * l + p) (by omega) (by omega) ?_
      rw [ms_k (by omega), (d1.1 (8 * l + p) (by omega)).2.2]
      refine wp_bnd _ (r_tell fu (by rw [emp_19]; omega) (r_emp d3)) ?_
      intro _ s3 ⟨q1, q2, q3⟩
      refine wp_bs ?_
      refine rI (8 * l + p) (by omega) (by omega) ?_
      rw [q3 _ _ (by omega) (by omega), ms_k (by omega)]
      exact wp_some ⟨(d1.1 (8 * l + p) (by omega)).2.1, q1, ((lo20 σ 0).trans (lo19 d4 0)).trans q2⟩
  · refine op_same h (-1) (fun σ hC => ?_) (fun σ hR => ?_)
    · unfold fX6_boardings
      refine wp_bnd _ (c_hasHalt h.1 hC.1 ha hb) ?_
      rintro x s' ⟨h0, h1, rfl⟩
      exact iNe0 (fun _ => by omega) (fun h => wp_some ⟨rfl, CP.refl σ⟩)
    · unfold fX7_boardings
      refine wp_stf ?_
      refine wp_bnd _ (r_isHalt h.1 hR.s20.1 ha hb) ?_
      rintro x s' ⟨h0, h1, rfl⟩
      exact iNe0 (fun _ => by omega) (fun h => wp_some ⟨rfl, rp20 σ 0⟩)
/-- those who change -/
def chg (V X : Mem) (q : Nat) : Int := if q = gl V then 0 else X 359 q
theorem c_changing (ok : OkN V) (hfu : 1000 < fu) (hg : σ 136 4 = V 328 11) (hX : ∀ s, s < 10 → σ (283 + 4 * s) 6 = X 359 s) : wp (fX2_changing fu σ) (fun r σ' => r = smf (chg V X) 10 ∧ σ = σ') := by
  have hgl := ok.go
  unfold fX2_changing
  refine for2 (f := fX2_changing_L4 fu _) 10 (fun i x s => x = smf (chg V X) i ∧ σ = s) ?_ ?_ (i := 0) ⟨rfl, rfl⟩
  · rintro n i x s hi ⟨rfl, rfl⟩ hrec
    rw [fX2_changing_L4, hg]
    refine iLe (fun h => by omega) (fun _ => ?_)
    refine wp_jn (iNe (fun g => ?_) (fun g => wp_lt (hrec _ _ ⟨?_, rfl⟩)))
    · refine rS i rfl hi (wp_lt (hrec _ _ ⟨?_, rfl⟩))
      simp only [smf]; unfold chg; rw [if_neg (by omega), hX i hi]
    · simp only [smf]; unfold chg; rw [if_pos (by omega)]
  · rintro n x s ⟨rfl, rfl⟩
    rw [fX2_changing_L4]
    exact iLe (fun _ => wp_some ⟨rfl, rfl⟩) (fun h => by omega)
theorem op_changes (h : OkA t V) (hfu : 1000 < fu) : Op t V (fX6_changes fu) (fX7_changes fu) := by
  have hgl := h.1.go
  refine op_same h (smf (chg V (ldv V)) 10) (fun σ hC => ?_) (fun σ hR => ?_)
  · unfold fX6_changes
    refine wp_bnd _ (c_loads h hfu hC) ?_
    intro _ s2 ⟨d1, d2, d3, d4⟩
    exact wp_ret (c_changing h.1 hfu d2.1.2.2.2.1 d1.2) ⟨rfl, d4⟩
  · unfold fX7_changes
    refine wp_stf ?_
    refine wp_bnd _ (r_loads h hfu hR.s20) ?_
    intro _ s2 ⟨d1, d2, d3, d4, d5⟩
    refine for2 (f := fX7_changes_L13 fu _) 10 (fun i x s => x = smf (chg V (ldv V)) i ∧ s2 = s) ?_ ?_ (i := 0) ⟨rfl, rfl⟩
    · rintro n i x s hi ⟨rfl, rfl⟩ hrec
      rw [fX7_changes_L13, d3.1.j (by omega)]
      refine iLe (fun h => by omega) (fun _ => ?_)
      refine wp_jn (iNe (fun g => ?_) (fun g => wp_lt (hrec _ _ ⟨?_, rfl⟩)))
      · refine rI i rfl hi (wp_lt (hrec _ _ ⟨?_, rfl⟩))
        simp only [smf]; unfold chg; rw [if_neg (by omega), d1.2 i hi]
      · simp only [smf]; unfold chg; rw [if_pos (by omega)]
    · rintro n x s ⟨rfl, rfl⟩
      rw [fX7_changes_L13]
      exact iLe (fun _ => wp_some ⟨rfl, (rp20 σ 0).trans d5⟩) (fun h => by omega)
theorem c_entering (ok : OkN V) (hfu : 1000 < fu) (hl : l < nn V) (hL : LnAt V σ l P) (hX : ∀ p, p < 8 → σ (P + 9) p = X 357 (8 * l + p)) : wp (fX1_allEntering fu P σ) (fun r σ' => r = smf (fun p => X 357 (8 * l + p)) (ln V l) ∧ σ = σ') := by
  have h8 := ok.len hl
  unfold fX1_allEntering
  refine for2 (f := fX1_allEntering_L4 fu P _) (ln V l) (fun i x s => x = smf (fun p => X 357 (8 * l + p)) i ∧ σ = s) ?_ ?_ (i := 0) ⟨rfl, rfl⟩
  · rintro n i x s hi ⟨rfl, rfl⟩ hrec
    rw [fX1_allEntering_L4, hL.2.1]
    refine iLe (fun h => by omega) (fun _ => ?_)
    refine rI i rfl (by omega) (wp_lt ?_)
    rw [hX i (by omega)]
    exact hrec _ _ ⟨rfl, rfl⟩
  · rintro n x s ⟨rfl, rfl⟩
    rw [fX1_allEntering_L4, hL.2.1]
    exact iLe (fun _ => wp_some ⟨rfl, rfl⟩) (fun h => by omega)
theorem fuF_lt : ∀ n, fuF X l n < n ∨ fuF X l n = 0 := by
  intro n
  induction n with
  | zero => exact Or.inr rfl
  | succ n ih => simp only [fuF]; split <;> omega
theorem fuF_0 : ∀ n, fuF X l n = 0 ∨ X 356 (8 * l) < X 356 (8 * l + fuF X l n) := by
  intro n
  induction n with
  | zero => exact Or.inl rfl
  | succ n ih =>
    simp only [fuF]
    split
    · rename_i g
      rcases ih with e | e
      · rw [e, Nat.add_zero] at g; exact Or.inr g
      · exact Or.inr (by omega)
    · exact ih
theorem fuF_take {n : Nat} (h : X 356 (8 * l + fuF X l n) < X 356 (8 * l + n)) : fuF X l (n + 1) = n := if_pos h
theorem fuF_keep {n : Nat} (h : ¬ X 356 (8 * l + fuF X l n) < X 356 (8 * l + n)) : fuF X l (n + 1) = fuF X l n := if_neg h
theorem scn_take {n : Nat} (h : X 356 (scn X l k n) < X 356 (8 * l + n)) : scn X l k (n + 1) = 8 * l + n := if_pos h
theorem scn_keep {n : Nat} (h : ¬ X 356 (scn X l k n) < X 356 (8 * l + n)) : scn X l k (n + 1) = scn X l k n := if_neg h
theorem scn_fu : ∀ n, 1 ≤ n → (X 356 k < X 356 (8 * l + fuF X l n) → scn X l k n = 8 * l + fuF X l n) ∧ (¬ X 356 k < X 356 (8 * l + fuF X l n) → scn X l k n = k) := by
  intro n
  induction n with
  | zero => intro h; omega
  | succ n ih =>
    intro _
    by_cases hn : n = 0
    · subst hn
      have e0 : scn X l k 0 = k := rfl
      have e1 : fuF X l (0 + 1) = 0 := fuF_keep (by show ¬ X 356 (8 * l + 0) < X 356 (8 * l + 0); omega)
      rw [e1]
      exact ⟨fun g => scn_take (by rw [e0]; exact g), fun g => scn_keep (by rw [e0]; exact g)⟩
    · have ih := ih (by omega)
      by_cases g : X 356 k < X 356 (8 * l + fuF X l n)
      · have e := ih.1 g
        by_cases g2 : X 356 (8 * l + fuF X l n) < X 356 (8 * l + n)
        · rw [fuF_take g2]
          exact ⟨fun _ => scn_take (by rw [e]; exact g2), fun q => absurd (by omega) q⟩
        · rw [fuF_keep g2]
          exact ⟨fun _ => by rw [scn_keep (by rw [e]; exact g2), e], fun q => absurd g q⟩
      · have e := ih.2 g
        by_cases g2 : X 356 k < X 356 (8 * l + n)
        · rw [fuF_take (by omega)]
          exact ⟨fun _ => scn_take (by rw [e]; exact g2), fun q => absurd g2 q⟩
        · have e3 : scn X l k (n + 1) = k := by rw [scn_keep (by rw [e]; exact g2), e]
          by_cases g3 : X 356 (8 * l + fuF X l n) < X 356 (8 * l + n)
          · rw [fuF_take g3]; exact ⟨fun q => absurd q g2, fun _ => e3⟩
          · rw [fuF_keep g3]; exact ⟨fun q => absurd q g, fun _ => e3⟩
theorem c_fullestStep (ok : OkN V) (hfu : 1000 < fu) (hl : l < nn V) (hL : LnAt V σ l P) (hX : ∀ p, p < 8 → σ (P + 8) p = X 356 (8 * l + p)) (hb : ∀ j, 0 ≤ X 356 j ∧ X 356 j ≤ 30000000) : wp (fX1_fullestStep fu P σ) (fun r σ' => r = (fuF X l (ln V l - 1) : Int) ∧ σ = σ') := by
  have h8 := ok.len hl
  unfold fX1_fullestStep
  refine for2 (f := fX1_fullestStep_L4 fu P _) (ln V l - 1) (fun i x s => 1 ≤ i ∧ x = (fuF X l i : Int) ∧ σ = s) ?_ ?_ (i := 1) ⟨by omega, by simp [fuF], rfl⟩
  · rintro n i x s hi ⟨h1, rfl, rfl⟩ hrec
    have hf := fuF_lt (X := X) (l := l) i
    have b1 := hb (8 * l + i)
    have b2 := hb (8 * l + fuF X l i)
    rw [fX1_fullestStep_L4, hL.2.1]
    refine iLe (fun h => by omega) (fun _ => ?_)
    refine rI i rfl (by omega) (rI (fuF X l i) rfl (by omega) ?_)
    rw [hX i (by omega), hX (fuF X l i) (by omega)]
    refine wp_jn (iLe (fun g => hrec _ _ ⟨by omega, ?_, rfl⟩) (fun g => hrec _ _ ⟨by omega, ?_, rfl⟩))
    · rw [fuF_keep (by omega)]
    · rw [fuF_take (by omega)]
  · rintro n x s ⟨h1, rfl, rfl⟩
    rw [fX1_fullestStep_L4, hL.2.1]
    exact iLe (fun _ => wp_some ⟨rfl, rfl⟩) (fun h => by omega)
/-- nobody boards at a last halt -/
theorem pas_last (ok : OkN V) (hb : ∀ s, -1 ≤ c s) (hl : l < nn V) {x : Int} (h0 : X 357 (8 * l + (ln V l - 1)) = 0) : ∀ i, i ≤ (tk V c s).length → pas V c s x i X 357 (8 * l + (ln V l - 1)) = 0 := by
  intro i
  induction i with
  | zero => intro _; exact h0
  | succ i ih =>
    intro hi
    have hl2 := tk_line ok hb (show i < (tk V c s).length by omega)
    have h8 := ok.len hl2.1
    have h82 := ok.len hl
    simp only [pas, addX]
    rw [if_neg]
    · exact ih (by omega)
    · intro g
      rcases g with g | g | g | g
      · have e : (gtL (tk V c s) i).2 = l := by omega
        rw [e] at g hl2
        omega
      · omega
      · omega
      · omega
theorem lds_last (ok : OkN V) (hb : ∀ s, -1 ≤ c s) (hl : l < nn V) : ∀ k, lds V c rid k 357 (8 * l + (ln V l - 1)) = 0 := by
  intro k
  induction k with
  | zero => rfl
  | succ k ih => simp only [lds]; exact pas_last ok hb hl ih _ (Nat.le_refl _)
theorem op_ridden (h : OkA t V) (hfu : 1000 < fu) (ha : R32 a) : Op t V (fX6_ridden fu a) (fX7_ridden fu a) := by
  have hn := h.1.n
  by_cases hc : 0 ≤ a ∧ a < V 328 9
  · obtain ⟨l, rfl⟩ := Int.eq_ofNat_of_zero_le hc.1
    have hl : l < nn V := by omega
    have h8 := h.1.len hl
    have hf := fuF_lt (X := ldv V) (l := l) (ln V l - 1)
    have hbx : ∀ j, 0 ≤ ldv V 356 j ∧ ldv V 356 j ≤ 30000000 := fun j => by have := ldv_b h.1 356 j; omega
    have hbf := hbx (8 * l + fuF (ldv V) l (ln V l - 1))
    have hlast : ldv V 357 (8 * l + (ln V l - 1)) = 0 := lds_last h.1 (fun s => (cv_b h.1 s).1) hl _
    have hsum : smf (fun p => ldv V 357 (8 * l + p)) (ln V l) = smf (fun p => ldv V 357 (8 * l + p)) (ln V l - 1) := by
      have e : ln V l = (ln V l - 1) + 1 := by omega
      conv => lhs; rw [e]
      simp only [smf]
      omega
    refine ⟨smf (fun p => ldv V 357 (8 * l + p)) (ln V l - 1), row2 V (ldv V 356 (8 * l + fuF (ldv V) l (ln V l - 1))) (fuF (ldv V) l (ln V l - 1) : Int), (row2_ok h).up, fun σ hC => ?_, fun σ hR => ?_⟩
    · unfold fX6_ridden
      refine wp_bnd _ (c_hasLine h.1 hC.1 ha) ?_
      rintro x s' ⟨h0, h1, rfl⟩
      refine iNe0 (fun _ => ?_) (fun h => by omega)
      refine wp_bnd _ (c_loads h hfu hC) ?_
      intro _ s2 ⟨d1, d2, d3, d4⟩
      have hP := d2.1.isL h.1 hl
      refine wp_rfd (rR l rfl (by omega) ?_)
      rw [show pl (s2 (pl (s2 136 0)) l) = PL s2 l from rfl]
      refine wp_bnd _ (c_fullestStep h.1 hfu hl (d2.1.ln hl) (fun p hp => (d1.1 l hl p hp).1) hbx) ?_
      rintro x s' ⟨rfl, rfl⟩
      refine rI (fuF (ldv V) l (ln V l - 1)) rfl (by omega) ?_
      rw [(d1.1 l hl _ (by omega)).1, w32_sm (by omega) (by omega), w32_sm (by omega) (by omega)]
      refine wp_bnd _ (c_putTwo fu h.1 d2) ?_
      intro _ s3 ⟨q1, q2, q3⟩
      have hL3 : LnAt V s3 l (PL s2 l) := ln_mv (d2.1.ln hl) hP (fun k j h1 h2 => q3 k j (by omega) (by omega))
      refine wp_bnd _ (c_entering (X := ldv V) h.1 hfu hl hL3 (fun p hp => by rw [q3 _ _ (by omega) (by omega)]; exact (d1.1 l hl p hp).2.1)) ?_
      rintro x s' ⟨rfl, rfl⟩
      exact wp_some ⟨hsum, q1, d3.trans q2⟩
    · unfold fX7_ridden
      refine wp_stf ?_
      refine wp_bnd _ (r_isLine h.1 hR.s20.1 ha) ?_
      rintro x s' ⟨h0, h1, rfl⟩
      refine iNe0 (fun _ => ?_) (fun h => by omega)
      refine wp_bnd _ (r_loads h hfu hR.s20) ?_
      intro _ s2 ⟨d1, d2, d3, d4, d5⟩
      refine for3 (f := fX7_ridden_L27 fu (l : Int) _) (ln V l - 1) (fun i x y s => x = smf (fun p => ldv V 357 (8 * l + p)) i ∧ y = (fuF (ldv V) l i : Int) ∧ s2 = s) ?_ ?_ (i := 0) ⟨rfl, rfl, rfl⟩
      · rintro n i x y s hi ⟨rfl, rfl, rfl⟩ hrec
        have hfi := fuF_lt (X := ldv V) (l := l) i
        have b1 := hbx (8 * l + i)
        have b2 := hbx (8 * l + fuF (ldv V) l i)
        rw [fX7_ridden_L27]
        refine rI l rfl (by omega) ?_
        rw [d3.1.2 330 _ (by omega) (by omega)]
        refine iLe (fun h => by omega) (fun _ => ?_)
        unfold fX7_at
        refine wp_bs ?_
        refine rI (8 * l + i) (by omega) (by omega) (wp_lt ?_)
        refine wp_bs ?_
        refine rI (8 * l + i) (by omega) (by omega) ?_
        refine wp_bs ?_
        refine rI (8 * l + fuF (ldv V) l i) (by omega) (by omega) ?_
        rw [(d1.1 _ (show 8 * l + i < 96 by omega)).1, (d1.1 _ (show 8 * l + i < 96 by omega)).2.1, (d1.1 _ (show 8 * l + fuF (ldv V) l i < 96 by omega)).1]
        refine wp_jn (jLe (fun g => hrec _ _ _ ⟨rfl, ?_, rfl⟩) (fun g => hrec _ _ _ ⟨rfl, ?_, rfl⟩))
        · rw [fuF_keep (by omega)]
        · rw [fuF_take (by omega)]
      · rintro n x y s ⟨rfl, rfl, rfl⟩
        rw [fX7_ridden_L27]
        refine rI l rfl (by omega) ?_
        rw [d3.1.2 330 _ (by omega) (by omega)]
        refine iLe (fun _ => ?_) (fun h => by omega)
        refine wp_stf ?_
        unfold fX7_at
        refine wp_bs ?_
        refine rI (8 * l + fuF (ldv V) l (ln V l - 1)) (by omega) (by omega) ?_
        rw [ms_k (by omega), (d1.1 _ (show 8 * l + fuF (ldv V) l (ln V l - 1) < 96 by omega)).1]
        refine wp_bnd _ (r_tell fu (by rw [emp_19]; omega) (r_emp d3)) ?_
        intro _ s3 ⟨q1, q2, q3⟩
        rw [w32_sm (by omega) (by omega)]
        refine wp_bnd _ (r_tell fu (by rw [psh_19, emp_19]; omega) q1) ?_
        intro _ s4 ⟨w1, w2, w3⟩
        exact wp_some ⟨rfl, w1, (((lo20 σ 0).trans (lo19 d4 0)).trans q2).trans w2⟩
  · refine op_same h (-1) (fun σ hC => ?_) (fun σ hR => ?_)
    · unfold fX6_ridden
      refine wp_bnd _ (c_hasLine h.1 hC.1 ha) ?_
      rintro x s' ⟨h0, h1, rfl⟩
      exact iNe0 (fun _ => by omega) (fun h => wp_some ⟨rfl, CP.refl σ⟩)
    · unfold fX7_ridden
      refine wp_stf ?_
      refine wp_bnd _ (r_isLine h.1 hR.s20.1 ha) ?_
      rintro x s' ⟨h0, h1, rfl⟩
      exact iNe0 (fun _ => by omega) (fun h => wp_some ⟨rfl, rp20 σ 0⟩)
end LOPS
