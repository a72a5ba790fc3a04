/-! ===== uses ===== -/
def rd1 (s q : Nat) : Int := if q = s then 1000 else 0
section USES
variable {V V' σ σ' X : Mem} {c rid : Nat → Int} {t k j l p s P fu : Nat} {a b v r : Int}
theorem rd1_b (s : Nat) : ∀ q, q < 10 → 0 ≤ rd1 s q ∧ rd1 s q ≤ 9999 := fun q _ => by unfold rd1; split <;> omega
theorem c_spreadOf (h : OkA t V) (hfu : 1000 < fu) (hC : ClsA V σ) (hD : CostC V σ) (hs : s < 10) : wp (fX2_spreadLoadsOf fu (s : Int) 1000 σ) (fun _ σ' => LdC V (lds V (cv V) (rd1 s) (od V (cv V)).length) σ' ∧ CP σ σ') := by
  have ok := h.1
  have hn := ok.n
  have hst : ∀ q, q < 10 → σ (283 + 4 * q) 0 = V 338 q := fun q hq => (hC.1.2.2.2.2.2.2.1 q hq).1
  unfold fX2_spreadLoadsOf
  refine for1 (f := fX2_spreadLoadsOf_L2 fu (s : Int) 1000 _) 10 (fun i s2 => (∀ q, q < i → s2 (283 + 4 * q) 8 = V 338 q ∧ s2 (283 + 4 * q) 0 = rd1 s q) ∧ (∀ q, i ≤ q → q < 10 → s2 (283 + 4 * q) 0 = V 338 q) ∧ ∀ k j, (283 ≤ k ∧ k < 323 ∧ (k - 283) % 4 = 0 ∧ (j = 0 ∨ j = 8)) ∨ s2 k j = σ k j) ?_ ?_ (i := 0) ⟨fun q hq => by omega, fun q _ hq => hst q hq, fun k j => Or.inr rfl⟩
  · intro n i s2 hi ⟨j1, j2, j3⟩ hrec
    rw [fX2_spreadLoadsOf_L2]
    refine iLe (fun h => by omega) (fun _ => ?_)
    refine rS i rfl hi (rS i rfl hi (wp_stf (rS i rfl hi ?_)))
    rw [j2 i (Nat.le_refl _) hi]
    have hgo : ∀ x, x = rd1 s i → wp (fX2_spreadLoadsOf_L2 fu (s : Int) 1000 (fun s8 => bnd (fX2_spreadLoads fu s8) (fun _ s9 => fX2_spreadLoadsOf_L57 fu (fun s14 => some (0, s14)) fu 0 s9)) n ((i : Int) + 1) (mset (mset s2 (283 + 4 * i) 8 (V 338 i)) (283 + 4 * i) 0 x)) (fun _ σ' => LdC V (lds V (cv V) (rd1 s) (od V (cv V)).length) σ' ∧ CP σ σ') := by
      rintro x rfl
      refine hrec _ ⟨fun q hq => ?_, fun q h1 h2 => ?_, fun k j => ?_⟩
      · by_cases e : q = i
        · rw [e, ms_j (by omega), ms_eq, ms_eq]; exact ⟨rfl, rfl⟩
        · rw [ms_k (by omega), ms_k (by omega), ms_k (by omega), ms_k (by omega)]; exact j1 q (by omega)
      · rw [ms_k (by omega), ms_k (by omega)]; exact j2 q (by omega) h2
      · by_cases e : k = 283 + 4 * i ∧ (j = 0 ∨ j = 8)
        · left; omega
        · rw [mset_eq, if_neg (by omega), mset_eq, if_neg (by omega)]; exact j3 k j
    refine wp_jn (iNe (fun g => wp_stf (hgo _ ?_)) (fun g => wp_stf (hgo _ ?_)))
    · unfold rd1; rw [if_neg (by omega)]
    · unfold rd1; rw [if_pos (by omega)]
  · intro n s2 ⟨j1, j2, j3⟩
    rw [fX2_spreadLoadsOf_L2]
    refine iLe (fun _ => ?_) (fun h => by omega)
    have hT2 := tab_mv hC.1.1 (σ' := s2) (by have := j3 136 0; omega) (by have := j3 1 2; omega) (fun j => by have := j3 3 j; omega) (fun j => by have := j3 137 j; omega)
    have hCR : ClsR V (rd1 s) s2 := by
      refine ⟨hT2.1, by rw [← hC.1.2.1]; have := j3 136 1; omega, by rw [← hC.1.2.2.2.1]; have := j3 136 4; omega, fun q hq => (j1 q hq).2, fun l hl => ?_⟩
      rw [hT2.2.1]
      have hP := hC.1.isL ok hl
      exact ln_mv (hC.1.ln hl) hP (fun k j a b => by have := j3 k j; omega)
    have hFD : FrD σ s2 := fun k j => by have := j3 k j; omega
    have hDC : DatC V (cv V) s2 := DatC.mvD (σ := σ) ⟨hD.1, hD.2.1⟩ ok hC.1.1 hFD
    refine wp_bnd _ (c_spread (rid := rd1 s) ok hfu hCR hDC (cv_ok ok) (fun s hs => cv_fix ok hs) (rd1_b s)) ?_
    intro _ s3 ⟨e1, e2, e3⟩
    have hT3 := tab_mv hT2.1 (σ' := s3) (by have := e2 136 0; omega) (by have := e2 1 2; omega) (fun j => by have := e2 3 j; omega) (fun j => by have := e2 137 j; omega)
    refine for1 (f := fX2_spreadLoadsOf_L57 fu _) 10 (fun i s4 => (∀ q, q < i → s4 (283 + 4 * q) 0 = V 338 q) ∧ ∀ k j, (283 ≤ k ∧ k < 323 ∧ (k - 283) % 4 = 0 ∧ j = 0) ∨ s4 k j = s3 k j) ?_ ?_ (i := 0) ⟨fun q hq => by omega, fun k j => Or.inr rfl⟩
    · intro n i s4 hi ⟨g1, g2⟩ hrec
      rw [fX2_spreadLoadsOf_L57]
      refine iLe (fun h => by omega) (fun _ => ?_)
      refine rS i rfl hi (rS i rfl hi (wp_stf (hrec _ ⟨fun q hq => ?_, fun k j => ?_⟩)))
      · by_cases e : q = i
        · rw [e, ms_eq, ← (j1 i hi).1]
          have := g2 (283 + 4 * i) 8
          have := e2 (283 + 4 * i) 8
          omega
        · rw [ms_k (by omega)]; exact g1 q (by omega)
      · by_cases e : k = 283 + 4 * i ∧ j = 0
        · left; omega
        · rw [mset_eq, if_neg e]; exact g2 k j
    · intro n s4 ⟨g1, g2⟩
      rw [fX2_spreadLoadsOf_L57]
      refine iLe (fun _ => ?_) (fun h => by omega)
      have hT4 := tab_mv hT3.1 (σ' := s4) (by have := g2 136 0; omega) (by have := g2 1 2; omega) (fun j => by have := g2 3 j; omega) (fun j => by have := g2 137 j; omega)
      refine wp_some ⟨⟨fun l hl p hp => ?_, fun q hq => ?_⟩, fun k j => ?_⟩
      · have d := e1.1 l hl p hp
        rw [hT4.2.1]
        have hP := hT3.1.2.1 l (by omega)
        have b1 := g2 (PL s3 l + 8) p
        have b2 := g2 (PL s3 l + 9) p
        have b3 := g2 (PL s3 l + 10) p
        refine ⟨by omega, by omega, by omega⟩
      · have d := e1.2 q hq
        have b := g2 (283 + 4 * q) 6
        omega
      · by_cases e : 283 ≤ k ∧ k < 323 ∧ (k - 283) % 4 = 0 ∧ j = 0
        · right
          have hk : k = 283 + 4 * ((k - 283) / 4) := by omega
          rw [hk, e.2.2.2, g1 _ (by omega), hst _ (by omega)]
        · have a := g2 k j
          have b := e2 k j
          have c := j3 k j
          omega
theorem r_usesL {x : Int} {Q : Int → Mem → Prop} {K : Mem → PR} (h : OkA t V) (hfu : 1000 < fu) (hR : RefA V σ) (hs : s < 10) (hK : ∀ s2, LdR (lds V (cv V) (rd1 s) (od V (cv V)).length) s2 → RP σ s2 → wp (K s2) Q) : wp (fX7_uses_L42 fu (s : Int) x (fun s13 => bnd (fX7_laysLoads fu s13) (fun _ s14 => fX7_uses_L90 fu x K fu 0 s14)) fu 0 σ) Q := by
  have ok := h.1
  refine for1 (f := fX7_uses_L42 fu (s : Int) x _) 10 (fun i s2 => (∀ q, q < i → s2 360 q = V 338 q ∧ s2 338 q = rd1 s q) ∧ (∀ q, i ≤ q → q < 10 → s2 338 q = V 338 q) ∧ ∀ k j, ((k = 338 ∨ k = 360) ∧ j < 10) ∨ s2 k j = σ k j) ?_ ?_ (i := 0) ⟨fun q hq => by omega, fun q _ hq => hR.2.1 q hq, fun k j => Or.inr rfl⟩
  · intro n i s2 hi ⟨j1, j2, j3⟩ hrec
    rw [fX7_uses_L42]
    refine iLe (fun h => by omega) (fun _ => ?_)
    refine rI i rfl hi (wI i rfl hi ?_)
    rw [j2 i (Nat.le_refl _) hi]
    have hgo : ∀ y, y = rd1 s i → wp (fX7_uses_L42 fu (s : Int) x (fun s13 => bnd (fX7_laysLoads fu s13) (fun _ s14 => fX7_uses_L90 fu x K fu 0 s14)) n ((i : Int) + 1) (mset (mset s2 360 i (V 338 i)) 338 i y)) Q := by
      rintro y rfl
      refine hrec _ ⟨fun q hq => ?_, fun q h1 h2 => ?_, fun k j => ?_⟩
      · by_cases e : q = i
        · rw [e, ms_k (by omega), ms_eq, ms_eq]; exact ⟨rfl, rfl⟩
        · rw [ms_j e, ms_j e, ms_j e, ms_j e]; exact j1 q (by omega)
      · rw [ms_j (by omega), ms_j (by omega)]; exact j2 q (by omega) h2
      · by_cases e : (k = 338 ∨ k = 360) ∧ j = i
        · left; omega
        · rw [mset_eq, if_neg (by omega), mset_eq, if_neg (by omega)]; exact j3 k j
    refine wp_jn (iNe (fun g => wI i rfl hi (hgo _ ?_)) (fun g => wI i rfl hi (hgo _ ?_)))
    · unfold rd1; rw [if_neg (by omega)]
    · unfold rd1; rw [if_pos (by omega)]
  · intro n s2 ⟨j1, j2, j3⟩
    rw [fX7_uses_L42]
    refine iLe (fun _ => ?_) (fun h => by omega)
    have hR2 : Ref V s2 := ⟨fun j hj => by rw [← hR.1.1 j hj]; have := j3 328 j; omega, fun k j h1 h2 => by rw [← hR.1.2 k j h1 h2]; have := j3 k j; omega⟩
    refine wp_bnd _ (q_laysLoads (rid := rd1 s) ok hfu hR2 h.2.1 (fun q hq => (j1 q hq).2) (rd1_b s)) ?_
    intro _ s3 ⟨e1, e2, e3, e4⟩
    refine for1 (f := fX7_uses_L90 fu x K) 10 (fun i s4 => (∀ q, q < i → s4 338 q = V 338 q) ∧ ∀ k j, (k = 338 ∧ j < 10) ∨ s4 k j = s3 k j) ?_ ?_ (i := 0) ⟨fun q hq => by omega, fun k j => Or.inr rfl⟩
    · intro n i s4 hi ⟨g1, g2⟩ hrec
      rw [fX7_uses_L90]
      refine iLe (fun h => by omega) (fun _ => ?_)
      refine rI i rfl hi (wI i rfl hi (hrec _ ⟨fun q hq => ?_, fun k j => ?_⟩))
      · by_cases e : q = i
        · rw [e, ms_eq, ← (j1 i hi).1]
          have := g2 360 i
          have := e4.at (k := 360) (j := i) (by omega)
          omega
        · rw [ms_j e]; exact g1 q (by omega)
      · by_cases e : k = 338 ∧ j = i
        · left; omega
        · rw [mset_eq, if_neg e]; exact g2 k j
    · intro n s4 ⟨g1, g2⟩
      rw [fX7_uses_L90]
      refine iLe (fun _ => ?_) (fun h => by omega)
      refine hK s4 ⟨fun j hj => ?_, fun q hq => ?_⟩ (fun k j => ?_)
      · have d := e1.1 j hj
        have b1 := g2 356 j
        have b2 := g2 357 j
        have b3 := g2 358 j
        refine ⟨by omega, by omega, by omega⟩
      · have d := e1.2 q hq
        have b := g2 359 q
        omega
      · by_cases e : k = 338 ∧ j < 10
        · right
          rw [e.1, g1 j e.2, hR.2.1 j e.2]
        · have a := g2 k j
          have b := e4 k j
          have c := j3 k j
          omega
theorem op_uses (h : OkA t V) (hfu : 1000 < fu) (ha : R32 a) (hb : R32 b) : Op t V (fX6_uses fu a b) (fX7_uses fu a b) := by
  have hn := h.1.n
  have hgl := h.1.go
  by_cases hc : (0 ≤ a ∧ a < 10) ∧ 0 ≤ b ∧ b < V 328 9
  · obtain ⟨s, rfl⟩ := Int.eq_ofNat_of_zero_le hc.1.1
    obtain ⟨l, rfl⟩ := Int.eq_ofNat_of_zero_le hc.2.1
    have hs : s < 10 := by omega
    have hl : l < nn V := by omega
    have h8 := h.1.len hl
    have hv := cv_b h.1 s
    have hXb := ldsv_b (rid := rd1 s) h.1 (rd1_b s)
    have hcb := smf_le (f := chg V (lds V (cv V) (rd1 s) (od V (cv V)).length)) (M := 10230000) 10 (fun i _ => by
      unfold chg
      have := hXb 359 i
      split <;> omega)
    by_cases hd : 0 ≤ cv V s
    · refine ⟨smf (fun p => lds V (cv V) (rd1 s) (od V (cv V)).length 357 (8 * l + p)) (ln V l), row1 V (smf (chg V (lds V (cv V) (rd1 s) (od V (cv V)).length)) 10), (row1_ok h).up, fun σ hC => ?_, fun σ hR => ?_⟩
      · unfold fX6_uses
        refine wp_bnd _ (c_isStop fu σ ha) ?_
        rintro x s' ⟨h0, h1, rfl⟩
        refine wp_jn (iEq0 (fun h => by omega) (fun _ => ?_))
        refine wp_bnd _ (c_hasLine h.1 hC.1 hb) ?_
        rintro x s' ⟨g0, g1, rfl⟩
        refine iNe0 (fun _ => ?_) (fun h => by omega)
        refine wp_bnd _ (c_find h hfu hC) ?_
        intro _ s2 ⟨d1, d2, d3, d4⟩
        refine rS s rfl hs ?_
        rw [(d1.1 s hs).1]
        refine iNe (fun _ => ?_) (fun h => by omega)
        refine wp_bnd _ (c_spreadOf h hfu d2 d1 hs) ?_
        intro _ s3 ⟨e1, e2⟩
        have hC3 := d2.mv h.1 e2
        refine wp_bnd _ (c_changing h.1 hfu hC3.1.2.2.2.1 e1.2) ?_
        rintro x s' ⟨rfl, rfl⟩
        rw [w32_sm (by omega) (by omega)]
        refine wp_bnd _ (c_putOne fu h.1 hC3) ?_
        intro _ s4 ⟨q1, q2, q3⟩
        have hT := hC3.1.1.1
        have hP := hC3.1.isL h.1 hl
        refine wp_rfd (rR l rfl (by omega) ?_)
        rw [q3 136 0 (by omega) (by omega), q3 (pl (s3 136 0)) l (by omega) (by omega), show pl (s3 (pl (s3 136 0)) l) = PL s3 l from rfl]
        have hL4 : LnAt V s4 l (PL s3 l) := ln_mv (hC3.1.ln hl) hP (fun k j h1 h2 => q3 k j (by omega) (by omega))
        refine wp_bnd _ (c_entering (X := lds V (cv V) (rd1 s) (od V (cv V)).length) h.1 hfu hl hL4 (fun p hp => by rw [q3 _ _ (by omega) (by omega)]; exact (e1.1 l hl p hp).2.1)) ?_
        rintro x s' ⟨rfl, rfl⟩
        exact wp_some ⟨rfl, q1, (d3.trans e2.hi).trans q2⟩
      · unfold fX7_uses
        refine wp_stf ?_
        refine wp_bnd _ (r_isStop fu _ ha) ?_
        rintro x s' ⟨h0, h1, rfl⟩
        refine wp_jn (iEq0 (fun h => by omega) (fun _ => ?_))
        refine wp_bnd _ (r_isLine h.1 hR.s20.1 hb) ?_
        rintro x s' ⟨g0, g1, rfl⟩
        refine iNe0 (fun _ => ?_) (fun h => by omega)
        refine wp_bnd _ (r_lays h hfu hR.s20) ?_
        intro _ s2 ⟨d1, d2, d3, d4⟩
        refine rI s rfl hs ?_
        rw [(d1.1 s hs).1]
        refine jLe (fun _ => ?_) (fun h => by omega)
        refine r_usesL h hfu d2 hs (fun s3 e1 e2 => ?_)
        have hR3 := d2.mv e2
        generalize lds V (cv V) (rd1 s) (od V (cv V)).length = X1 at *
        refine for2 (f := fX7_uses_L122 fu (l : Int) _) (ln V l) (fun i x s => x = smf (fun p => X1 357 (8 * l + p)) i ∧ s3 = s) ?_ ?_ (i := 0) ⟨rfl, rfl⟩
        · rintro n i x s hi ⟨rfl, rfl⟩ hrec
          rw [fX7_uses_L122]
          refine rI l rfl (by omega) ?_
          rw [hR3.1.2 330 _ (by omega) (by omega)]
          refine iLe (fun h => by omega) (fun _ => ?_)
          unfold fX7_at
          refine wp_bs ?_
          refine rI (8 * l + i) (by omega) (by omega) (wp_lt ?_)
          rw [(e1.1 _ (show 8 * l + i < 96 by omega)).2.1]
          exact hrec _ _ ⟨rfl, rfl⟩
        · rintro n x s ⟨rfl, rfl⟩
          rw [fX7_uses_L122]
          refine rI l rfl (by omega) ?_
          rw [hR3.1.2 330 _ (by omega) (by omega)]
          refine iLe (fun _ => ?_) (fun h => by omega)
          refine for2 (f := fX7_uses_L156 fu _ _) 10 (fun i x s => x = smf (chg V X1) i ∧ s3 = s) ?_ ?_ (i := 0) ⟨rfl, rfl⟩
          · rintro n i x s hi ⟨rfl, rfl⟩ hrec
            rw [fX7_uses_L156, hR3.1.j (by omega)]
            refine iLe (fun h => by omega) (fun _ => ?_)
            refine wp_jn (iNe (fun g => ?_) (fun g => wp_lt (hrec _ _ ⟨?_, rfl⟩)))
            · refine rI i rfl hi (wp_lt (hrec _ _ ⟨?_, rfl⟩))
              simp only [smf]; rw [show chg V X1 i = X1 359 i by unfold chg; rw [if_neg (by omega)], e1.2 i hi]
            · simp only [smf]; rw [show chg V X1 i = 0 by unfold chg; rw [if_pos (by omega)]]
          · rintro n x s ⟨rfl, rfl⟩
            rw [fX7_uses_L156]
            refine iLe (fun _ => ?_) (fun h => by omega)
            refine wp_stf ?_
            refine wp_bnd _ (r_tell fu (by rw [emp_19]; omega) (r_emp hR3)) ?_
            intro _ s4 ⟨q1, q2, q3⟩
            exact wp_some ⟨rfl, q1, ((lo20 σ 0).trans (lo19 (d3.trans e2.lo) 0)).trans q2⟩
    · refine op_same h (-2) (fun σ hC => ?_) (fun σ hR => ?_)
      · unfold fX6_uses
        refine wp_bnd _ (c_isStop fu σ ha) ?_
        rintro x s' ⟨h0, h1, rfl⟩
        refine wp_jn (iEq0 (fun h => by omega) (fun _ => ?_))
        refine wp_bnd _ (c_hasLine h.1 hC.1 hb) ?_
        rintro x s' ⟨g0, g1, rfl⟩
        refine iNe0 (fun _ => ?_) (fun h => by omega)
        refine wp_bnd _ (c_find h hfu hC) ?_
        intro _ s2 ⟨d1, d2, d3, d4⟩
        refine rS s rfl hs ?_
        rw [(d1.1 s hs).1]
        exact iNe (fun _ => by omega) (fun h => wp_some ⟨rfl, d4⟩)
      · unfold fX7_uses
        refine wp_stf ?_
        refine wp_bnd _ (r_isStop fu _ ha) ?_
        rintro x s' ⟨h0, h1, rfl⟩
        refine wp_jn (iEq0 (fun h => by omega) (fun _ => ?_))
        refine wp_bnd _ (r_isLine h.1 hR.s20.1 hb) ?_
        rintro x s' ⟨g0, g1, rfl⟩
        refine iNe0 (fun _ => ?_) (fun h => by omega)
        refine wp_bnd _ (r_lays h hfu hR.s20) ?_
        intro _ s2 ⟨d1, d2, d3, d4⟩
        refine rI s rfl hs ?_
        rw [(d1.1 s hs).1]
        exact jLe (fun _ => by omega) (fun h => wp_some ⟨rfl, (rp20 σ 0).trans d4⟩)
  · refine op_same h (-1) (fun σ hC => ?_) (fun σ hR => ?_)
    · unfold fX6_uses
      refine wp_bnd _ (c_isStop fu σ ha) ?_
      rintro x s' ⟨h0, h1, rfl⟩
      refine wp_jn (iEq0 (fun h => wp_some ⟨rfl, CP.refl σ⟩) (fun _ => ?_))
      refine wp_bnd _ (c_hasLine h.1 hC.1 hb) ?_
      rintro x s' ⟨g0, g1, rfl⟩
      exact iNe0 (fun _ => by omega) (fun h => wp_some ⟨rfl, CP.refl σ⟩)
    · unfold fX7_uses
      refine wp_stf ?_
      refine wp_bnd _ (r_isStop fu _ ha) ?_
      rintro x s' ⟨h0, h1, rfl⟩
      refine wp_jn (iEq0 (fun h => wp_some ⟨rfl, rp20 σ 0⟩) (fun _ => ?_))
      refine wp_bnd _ (r_isLine h.1 hR.s20.1 hb) ?_
      rintro x s' ⟨g0, g1, rfl⟩
      exact iNe0 (fun _ => by omega) (fun h => wp_some ⟨rfl, rp20 σ 0⟩)
end USES
