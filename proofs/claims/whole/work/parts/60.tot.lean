/-! ===== totals ===== -/
noncomputable def tt1 (V : Mem) (s : Nat) : Int := if 0 ≤ cv V s then V 338 s * cv V s else 0
noncomputable def ss1 (V : Mem) (s : Nat) : Int := if s ≠ gl V ∧ cv V s < 0 then V 338 s else 0
noncomputable def totv (V : Mem) : Int := smf (tt1 V) 10
noncomputable def strv (V : Mem) : Int := smf (ss1 V) 10
def rpS (V X : Mem) : Nat → Int
  | 0 => 0
  | l + 1 => rpS V X l + smf (fun p => X 356 (8 * l + p) * tmv V l p) (ln V l - 1)
section TOT
variable {V V' σ σ' X : Mem} {c rid : Nat → Int} {t k j l p s P fu : Nat} {a b v r : Int}
theorem smf_le {f : Nat → Int} {M : Int} : ∀ n : Nat, (∀ i, i < n → 0 ≤ f i ∧ f i ≤ M) → 0 ≤ smf f n ∧ smf f n ≤ M * (n : Int) := by
  intro n
  induction n with
  | zero => intro _; simp [smf]
  | succ n ih =>
    intro h
    have h1 := ih (fun i hi => h i (by omega))
    have h2 := h n (by omega)
    simp only [smf]
    rw [show ((n + 1 : Nat) : Int) = (n : Int) + 1 by omega, Int.mul_add]
    omega
theorem tt1_b (ok : OkN V) (hs : s < 10) : 0 ≤ tt1 V s ∧ tt1 V s ≤ 177982200000 := by
  have h1 := rid_b ok s hs
  have h2 := cv_b ok s
  unfold tt1
  split
  · rename_i g
    refine ⟨Int.mul_nonneg h1.1 g, ?_⟩
    have a1 : V 338 s * cv V s ≤ 9999 * cv V s := Int.mul_le_mul_of_nonneg_right h1.2 g
    omega
  · omega
theorem ss1_b (ok : OkN V) (hs : s < 10) : 0 ≤ ss1 V s ∧ ss1 V s ≤ 9999 := by
  have h1 := rid_b ok s hs
  unfold ss1
  split <;> omega
theorem totv_b (ok : OkN V) : 0 ≤ totv V ∧ totv V ≤ 1779822000000 := by
  have := smf_le (f := tt1 V) (M := 177982200000) 10 (fun i hi => tt1_b ok hi)
  unfold totv
  omega
theorem strv_b (ok : OkN V) : 0 ≤ strv V ∧ strv V ≤ 99990 := by
  have := smf_le (f := ss1 V) (M := 9999) 10 (fun i hi => ss1_b ok hi)
  unfold strv
  omega
theorem CostC.mv8 (h : CostC V σ) (ok : OkN V) (hT : Tab σ) (g : ∀ k j, (k = 136 ∧ (j = 8 ∨ j = 9)) ∨ σ' k j = σ k j) : CostC V σ' := by
  have ht := tab_mv hT (σ' := σ') (by have := g 136 0; omega) (by have := g 1 2; omega) (fun j => by have := g 3 j; omega) (fun j => by have := g 137 j; omega)
  refine ⟨fun s hs => ⟨?_, (h.1 s hs).2.mv ?_ ?_ (fun k j h1 h2 => ?_)⟩, fun l hl => ?_, ?_⟩
  · rw [← (h.1 s hs).1]; have := g (283 + 4 * s) 2; omega
  · have := g (283 + 4 * s) 4; omega
  · have := g (283 + 4 * s) 5; omega
  · have := g k j; omega
  · rw [ht.2.1]
    have hP := hT.2.1 l (by have := ok.n; omega)
    exact (h.2.1 l hl).mv (fun k j a b => by have := g k j; omega)
  · rw [← h.2.2]; have := g 136 7; omega
theorem c_findTotal (h : OkA t V) (hfu : 1000 < fu) (hC : ClsA V σ) : wp (fX2_findTotal fu σ) (fun _ σ' => σ' 136 8 = totv V ∧ σ' 136 9 = strv V ∧ CostC V σ' ∧ ClsA V σ' ∧ Hi σ σ' ∧ CP σ σ') := by
  have hgl := h.1.go
  unfold fX2_findTotal
  refine wp_bnd _ (c_find h hfu hC) ?_
  intro _ s2 ⟨d1, d2, d3, d4⟩
  refine wp_stf (wp_stf ?_)
  refine for1 (f := fX2_findTotal_L16 fu _) 10 (fun i s => s 136 8 = smf (tt1 V) i ∧ s 136 9 = smf (ss1 V) i ∧ ∀ k j, (k = 136 ∧ (j = 8 ∨ j = 9)) ∨ s k j = s2 k j) ?_ ?_ (i := 0) ⟨by rw [ms_j (by omega), ms_eq]; rfl, by rw [ms_eq]; rfl, fun k j => ?_⟩
  · intro n i s3 hi ⟨j1, j2, j3⟩ hrec
    have hv := cv_b h.1 i
    have hr := rid_b h.1 i hi
    have e4 : s3 136 4 = V 328 11 := by rw [← d2.1.2.2.2.1]; have := j3 136 4; omega
    have e2 : s3 (283 + 4 * i) 2 = cv V i := by rw [← (d1.1 i hi).1]; have := j3 (283 + 4 * i) 2; omega
    have e0 : s3 (283 + 4 * i) 0 = V 338 i := by rw [← (d2.1.2.2.2.2.2.2.1 i hi).1]; have := j3 (283 + 4 * i) 0; omega
    rw [fX2_findTotal_L16]
    refine iLe (fun h => by omega) (fun _ => ?_)
    refine rS i rfl hi ?_
    rw [e2, e4, e0, w32_sm (x := V 338 i) (by omega) (by omega)]
    refine wp_jn (iEq (fun g => ?_) (fun g => ?_))
    · refine iEq (fun g2 => hrec _ ⟨?_, ?_, j3⟩) (fun g2 => wp_stf (hrec _ ⟨?_, ?_, fun k j => ?_⟩))
      · simp only [smf]; unfold tt1; rw [if_neg (by omega)]; exact (by rw [j1]; unfold tt1; omega)
      · simp only [smf]; rw [show ss1 V i = 0 by unfold ss1; rw [if_neg (by omega)]]; omega
      · rw [ms_j (by omega)]; simp only [smf]; rw [show tt1 V i = 0 by unfold tt1; rw [if_neg (by omega)]]; omega
      · rw [ms_eq, j2]; simp only [smf]; rw [show ss1 V i = V 338 i by unfold ss1; rw [if_pos (by omega)]]
      · by_cases e : k = 136 ∧ j = 9
        · left; omega
        · rw [mset_eq, if_neg e]; exact j3 k j
    · rw [w32_sm (x := cv V i) (by omega) (by omega)]
      refine wp_stf (hrec _ ⟨?_, ?_, fun k j => ?_⟩)
      · rw [ms_eq, j1]; simp only [smf]; rw [show tt1 V i = V 338 i * cv V i by unfold tt1; rw [if_pos (by omega)]]
      · rw [ms_j (by omega)]; simp only [smf]; rw [show ss1 V i = 0 by unfold ss1; rw [if_neg (by omega)]]; omega
      · by_cases e : k = 136 ∧ j = 8
        · left; omega
        · rw [mset_eq, if_neg e]; exact j3 k j
  · intro n s3 ⟨j1, j2, j3⟩
    rw [fX2_findTotal_L16]
    refine iLe (fun _ => ?_) (fun h => by omega)
    have hCP : CP s2 s3 := fun k j => by have := j3 k j; omega
    exact wp_some ⟨j1, j2, d1.mv8 h.1 d2.1.1 j3, d2.mv h.1 hCP, (d4.trans hCP).hi, d4.trans hCP⟩
  · by_cases e : k = 136 ∧ (j = 8 ∨ j = 9)
    · exact Or.inl e
    · rw [mset_eq, if_neg (by omega), mset_eq, if_neg (by omega)]; exact Or.inr rfl
theorem r_totalNow (ok : OkN V) (hfu : 1000 < fu) (hr : ∀ s, s < 10 → σ 338 s = V 338 s) (hD : ∀ s, s < 10 → σ 346 s = cv V s) : wp (fX7_totalNow fu σ) (fun r σ' => r = totv V ∧ σ = σ') := by
  unfold fX7_totalNow
  refine for2 (f := fX7_totalNow_L4 fu _) 10 (fun i x s => x = smf (tt1 V) i ∧ σ = s) ?_ ?_ (i := 0) ⟨rfl, rfl⟩
  · rintro n i x s hi ⟨rfl, rfl⟩ hrec
    have hv := cv_b ok i
    have hri := rid_b ok i hi
    rw [fX7_totalNow_L4]
    refine iLe (fun h => by omega) (fun _ => ?_)
    refine rI i rfl hi ?_
    rw [hD i hi]
    refine wp_jn (jLt (fun g => wp_lt (hrec _ _ ⟨?_, rfl⟩)) (fun g => rI i rfl hi (rI i rfl hi (wp_lt (hrec _ _ ⟨?_, rfl⟩)))))
    · simp only [smf]; rw [show tt1 V i = 0 by unfold tt1; rw [if_neg (by omega)]]
    · rw [hr i hi, hD i hi, w32_sm (by omega) (by omega)]
      simp only [smf]; rw [show tt1 V i = V 338 i * cv V i by unfold tt1; rw [if_pos (by omega)]]
  · rintro n x s ⟨rfl, rfl⟩
    rw [fX7_totalNow_L4]
    exact iLe (fun _ => wp_some ⟨rfl, rfl⟩) (fun h => by omega)
theorem r_strandedNow (ok : OkN V) (hfu : 1000 < fu) (hg : σ 328 11 = V 328 11) (hr : ∀ s, s < 10 → σ 338 s = V 338 s) (hD : ∀ s, s < 10 → σ 346 s = cv V s) : wp (fX7_strandedNow fu σ) (fun r σ' => r = strv V ∧ σ = σ') := by
  have hgl := ok.go
  unfold fX7_strandedNow
  refine for2 (f := fX7_strandedNow_L4 fu _) 10 (fun i x s => x = smf (ss1 V) i ∧ σ = s) ?_ ?_ (i := 0) ⟨rfl, rfl⟩
  · rintro n i x s hi ⟨rfl, rfl⟩ hrec
    have hv := cv_b ok i
    have hri := rid_b ok i hi
    rw [fX7_strandedNow_L4, hg]
    refine iLe (fun h => by omega) (fun _ => ?_)
    refine wp_jn (wp_jn (iEq (fun g => wp_lt (hrec _ _ ⟨?_, rfl⟩)) (fun g => rI i rfl hi ?_)))
    · simp only [smf]; rw [show ss1 V i = 0 by unfold ss1; rw [if_neg (by omega)]]
    · rw [hD i hi]
      refine jLe (fun g2 => wp_lt (hrec _ _ ⟨?_, rfl⟩)) (fun g2 => rI i rfl hi (wp_lt (hrec _ _ ⟨?_, rfl⟩)))
      · simp only [smf]; rw [show ss1 V i = 0 by unfold ss1; rw [if_neg (by omega)]]
      · rw [hr i hi, w32_sm (by omega) (by omega)]
        simp only [smf]; rw [show ss1 V i = V 338 i by unfold ss1; rw [if_pos (by omega)]]
  · rintro n x s ⟨rfl, rfl⟩
    rw [fX7_strandedNow_L4]
    exact iLe (fun _ => wp_some ⟨rfl, rfl⟩) (fun h => by omega)
theorem c_ridingPoints (ok : OkN V) (hfu : 1000 < fu) (hC : Cls V σ) (hX : LdC V X σ) (hb : ∀ j, 0 ≤ X 356 j ∧ X 356 j ≤ 30000000) : wp (fX2_ridingPoints fu σ) (fun r σ' => r = rpS V X (nn V) ∧ σ = σ') := by
  have hn := ok.n
  unfold fX2_ridingPoints
  refine for2 (f := fX2_ridingPoints_L4 fu _) (nn V) (fun i x s => x = rpS V X i ∧ σ = s) ?_ ?_ (i := 0) ⟨rfl, rfl⟩
  · rintro n i x s hi ⟨rfl, rfl⟩ hrec
    have h8 := ok.len hi
    have hL := hC.ln hi
    rw [fX2_ridingPoints_L4, hC.2.1]
    refine iLe (fun h => by omega) (fun _ => ?_)
    refine for2 (f := fX2_ridingPoints_L15 fu (i : Int) _) (ln V i - 1) (fun p x s => x = rpS V X i + smf (fun p => X 356 (8 * i + p) * tmv V i p) p ∧ σ = s) ?_ ?_ (i := 0) ⟨by simp [smf], rfl⟩
    · rintro n p x s hp ⟨rfl, rfl⟩ hrec2
      have ht := ok.tm i p
      have hbp := hb (8 * i + p)
      rw [fX2_ridingPoints_L15]
      refine wp_rfd (rR i rfl (by omega) ?_)
      rw [show pl (σ (pl (σ 136 0)) i) = PL σ i from rfl, hL.2.1]
      refine iLe (fun h => by omega) (fun _ => ?_)
      refine wp_rfd (rR i rfl (by omega) ?_)
      rw [show pl (σ (pl (σ 136 0)) i) = PL σ i from rfl]
      refine rI p rfl (by omega) ?_
      rw [(hX.1 i hi p (by omega)).1]
      refine wp_rfd (rR i rfl (by omega) ?_)
      rw [show pl (σ (pl (σ 136 0)) i) = PL σ i from rfl]
      refine wp_bnd _ (c_time ok hi hL (by omega)) ?_
      rintro x s' ⟨rfl, rfl⟩
      rw [w32_sm (x := X 356 (8 * i + p)) (by omega) (by omega), w32_sm (x := tmv V i p) (by omega) (by omega)]
      exact wp_lt (hrec2 _ _ ⟨by simp only [smf]; omega, rfl⟩)
    · rintro n x s ⟨rfl, rfl⟩
      rw [fX2_ridingPoints_L15]
      refine wp_rfd (rR i rfl (by omega) ?_)
      rw [show pl (σ (pl (σ 136 0)) i) = PL σ i from rfl, hL.2.1]
      exact iLe (fun _ => hrec _ _ ⟨rfl, rfl⟩) (fun h => by omega)
  · rintro n x s ⟨rfl, rfl⟩
    rw [fX2_ridingPoints_L4, hC.2.1]
    exact iLe (fun _ => wp_some ⟨rfl, rfl⟩) (fun h => by omega)
theorem op_total (h : OkA t V) (hfu : 1000 < fu) : Op t V (fX6_total fu) (fX7_total fu) := by
  have hn := h.1.n
  have hbx : ∀ j, 0 ≤ ldv V 356 j ∧ ldv V 356 j ≤ 30000000 := fun j => by have := ldv_b h.1 356 j; omega
  refine ⟨totv V, row2 V (strv V) (rpS V (ldv V) (nn V)), (row2_ok h).up, fun σ hC => ?_, fun σ hR => ?_⟩
  · unfold fX6_total
    refine wp_bnd _ (c_findTotal h hfu hC) ?_
    intro _ s1 ⟨d1, d2, d3, d4, d5, d6⟩
    refine wp_bnd _ (c_spreadA h hfu d4 d3) ?_
    intro _ s2 ⟨e1, e2, e3⟩
    have f8 : s2 136 8 = totv V := by rw [← d1]; have := e3 136 8; omega
    have f9 : s2 136 9 = strv V := by rw [← d2]; have := e3 136 9; omega
    refine wp_bnd _ (c_ridingPoints h.1 hfu e2.1 e1 hbx) ?_
    rintro x s' ⟨rfl, rfl⟩
    rw [f9]
    refine wp_bnd _ (c_putTwo fu h.1 e2) ?_
    intro _ s3 ⟨q1, q2, q3⟩
    exact wp_some ⟨by rw [q3 _ _ (by omega) (by omega)]; exact f8, q1, (d5.trans e3.cp.hi).trans q2⟩
  · unfold fX7_total
    refine wp_stf ?_
    refine wp_bnd _ (r_loads h hfu hR.s20) ?_
    intro _ s2 ⟨d1, d2, d3, d4, d5⟩
    refine for2 (f := fX7_total_L13 fu _) (nn V) (fun i x s => x = rpS V (ldv V) i ∧ s2 = s) ?_ ?_ (i := 0) ⟨rfl, rfl⟩
    · rintro n i x s hi ⟨rfl, rfl⟩ hrec
      have h8 := h.1.len hi
      rw [fX7_total_L13, d3.1.j (by omega)]
      refine iLe (fun h => by omega) (fun _ => ?_)
      refine for2 (f := fX7_total_L24 fu (i : Int) _) (ln V i - 1) (fun p x s => x = rpS V (ldv V) i + smf (fun p => ldv V 356 (8 * i + p) * tmv V i p) p ∧ s2 = s) ?_ ?_ (i := 0) ⟨by simp [smf], rfl⟩
      · rintro n p x s hp ⟨rfl, rfl⟩ hrec2
        rw [fX7_total_L24]
        refine rI i rfl (by omega) ?_
        rw [d3.1.2 330 _ (by omega) (by omega)]
        refine iLe (fun h => by omega) (fun _ => ?_)
        unfold fX7_at
        refine wp_bs ?_
        refine rI (8 * i + p) (by omega) (by omega) ?_
        rw [(d1.1 _ (show 8 * i + p < 96 by omega)).1]
        refine wp_bnd _ (r_time h.1 hi d3.1 (by omega)) ?_
        rintro x s' ⟨rfl, rfl⟩
        exact wp_lt (hrec2 _ _ ⟨by simp only [smf]; omega, rfl⟩)
      · rintro n x s ⟨rfl, rfl⟩
        rw [fX7_total_L24]
        refine rI i rfl (by omega) ?_
        rw [d3.1.2 330 _ (by omega) (by omega)]
        exact iLe (fun _ => hrec _ _ ⟨rfl, rfl⟩) (fun h => by omega)
    · rintro n x s ⟨rfl, rfl⟩
      rw [fX7_total_L13, d3.1.j (by omega)]
      refine iLe (fun _ => ?_) (fun h => by omega)
      refine wp_stf ?_
      refine wp_bnd _ (r_strandedNow h.1 hfu (by rw [ms_j (by omega)]; exact d3.1.j (by omega)) (fun s hs => by rw [ms_k (by omega)]; exact d3.2.1 s hs) (fun s hs => by rw [ms_k (by omega)]; exact (d2.1 s hs).1)) ?_
      rintro x s' ⟨rfl, rfl⟩
      refine wp_bnd _ (r_tell fu (by rw [emp_19]; omega) (r_emp d3)) ?_
      intro _ s3 ⟨q1, q2, q3⟩
      refine wp_bnd _ (r_tell fu (by rw [psh_19, emp_19]; omega) q1) ?_
      intro _ s4 ⟨w1, w2, w3⟩
      refine wp_bnd _ (r_totalNow h.1 hfu (fun s hs => by rw [w3 _ _ (by omega) (by omega), q3 _ _ (by omega) (by omega), ms_k (by omega)]; exact d3.2.1 s hs) (fun s hs => by rw [w3 _ _ (by omega) (by omega), q3 _ _ (by omega) (by omega), ms_k (by omega)]; exact (d2.1 s hs).1)) ?_
      rintro x s' ⟨rfl, rfl⟩
      exact wp_some ⟨rfl, w1, (((lo20 σ 0).trans (lo19 d4 0)).trans q2).trans w2⟩
theorem bst_lt (ok : OkN V) : ∀ l, l ≤ nn V → bst V X l < 8 * l ∨ (l = 0 ∧ bst V X l = 0) := by
  intro l
  induction l with
  | zero => intro _; exact Or.inr ⟨rfl, rfl⟩
  | succ l ih =>
    intro hl
    have ih := ih (by omega)
    have h8 := ok.len (show l < nn V by omega)
    have hf := fuF_lt (X := X) (l := l) (ln V l - 1)
    have hs := scn_fu (X := X) (l := l) (k := bst V X l) (ln V l - 1) (by omega)
    show scn X l (bst V X l) (ln V l - 1) < 8 * (l + 1) ∨ _
    left
    by_cases g : X 356 (bst V X l) < X 356 (8 * l + fuF X l (ln V l - 1))
    · rw [hs.1 g]; omega
    · rw [hs.2 g]; omega
theorem op_fullest (h : OkA t V) (hfu : 1000 < fu) : Op t V (fX6_fullest fu) (fX7_fullest fu) := by
  have hn := h.1.n
  have hbx : ∀ j, 0 ≤ ldv V 356 j ∧ ldv V 356 j ≤ 30000000 := fun j => by have := ldv_b h.1 356 j; omega
  by_cases h0 : V 328 9 = 0
  · refine op_same h (-2) (fun σ hC => ?_) (fun σ hR => ?_)
    · unfold fX6_fullest
      rw [hC.1.2.1]
      exact iNe0 (fun g => absurd h0 g) (fun _ => wp_some ⟨rfl, CP.refl σ⟩)
    · unfold fX7_fullest
      refine wp_stf ?_
      rw [hR.s20.1.j (by omega)]
      exact iNe0 (fun g => absurd h0 g) (fun _ => wp_some ⟨rfl, rp20 σ 0⟩)
  · have hbl := bst_lt (X := ldv V) h.1 (nn V) (Nat.le_refl _)
    have hbb := hbx (bst V (ldv V) (nn V))
    refine ⟨100 * ((bst V (ldv V) (nn V) / 8 : Nat) : Int) + ((bst V (ldv V) (nn V) % 8 : Nat) : Int), row1 V (ldv V 356 (bst V (ldv V) (nn V))), (row1_ok h).up, fun σ hC => ?_, fun σ hR => ?_⟩
    · unfold fX6_fullest
      rw [hC.1.2.1]
      refine iNe0 (fun _ => ?_) (fun g => absurd g h0)
      refine wp_bnd _ (c_loads h hfu hC) ?_
      intro _ s2 ⟨d1, d2, d3, d4⟩
      refine for3 (f := fX6_fullest_L26 fu _) (nn V) (fun i x y s => ((i = 0 ∧ x = 0 ∧ y = -1) ∨ (1 ≤ i ∧ x = 100 * ((bst V (ldv V) i / 8 : Nat) : Int) + ((bst V (ldv V) i % 8 : Nat) : Int) ∧ y = ldv V 356 (bst V (ldv V) i))) ∧ s2 = s) ?_ ?_ (i := 0) ⟨Or.inl ⟨rfl, rfl, rfl⟩, rfl⟩
      · rintro n i x y s hi ⟨j1, rfl⟩ hrec
        have h8 := h.1.len hi
        have hf := fuF_lt (X := ldv V) (l := i) (ln V i - 1)
        have hf0 := fuF_0 (X := ldv V) (l := i) (ln V i - 1)
        have hs := scn_fu (X := ldv V) (l := i) (k := bst V (ldv V) i) (ln V i - 1) (by omega)
        have hbi := hbx (8 * i + fuF (ldv V) i (ln V i - 1))
        have hbb2 := hbx (bst V (ldv V) i)
        have hnx : bst V (ldv V) (i + 1) = scn (ldv V) i (bst V (ldv V) i) (ln V i - 1) := rfl
        rw [fX6_fullest_L26, d2.1.2.1]
        refine iLe (fun h => by omega) (fun _ => ?_)
        refine wp_rfd (rR i rfl (by omega) ?_)
        rw [show pl (s2 (pl (s2 136 0)) i) = PL s2 i from rfl]
        refine wp_bnd _ (c_fullestStep h.1 hfu hi (d2.1.ln hi) (fun p hp => (d1.1 i hi p hp).1) hbx) ?_
        rintro z s' ⟨rfl, rfl⟩
        refine wp_rfd (rR i rfl (by omega) ?_)
        rw [show pl (s2 (pl (s2 136 0)) i) = PL s2 i from rfl]
        refine rI (fuF (ldv V) i (ln V i - 1)) rfl (by omega) ?_
        rw [(d1.1 i hi _ (by omega)).1]
        have htake : ldv V 356 (bst V (ldv V) i) < ldv V 356 (8 * i + fuF (ldv V) i (ln V i - 1)) ∨ i = 0 → bst V (ldv V) (i + 1) = 8 * i + fuF (ldv V) i (ln V i - 1) := by
          intro g
          rw [hnx]
          by_cases g2 : ldv V 356 (bst V (ldv V) i) < ldv V 356 (8 * i + fuF (ldv V) i (ln V i - 1))
          · exact hs.1 g2
          · rw [hs.2 g2]
            have hi0 : i = 0 := by omega
            subst hi0
            have e0 : bst V (ldv V) 0 = 0 := rfl
            rw [e0] at g2 ⊢
            rcases hf0 with e | e
            · omega
            · exact absurd e g2
        have hkeep : ¬ ldv V 356 (bst V (ldv V) i) < ldv V 356 (8 * i + fuF (ldv V) i (ln V i - 1)) → bst V (ldv V) (i + 1) = bst V (ldv V) i := fun g => by rw [hnx]; exact hs.2 g
        refine wp_jn (iLe (fun g => hrec _ _ _ ⟨?_, rfl⟩) (fun g => ?_))
        · rcases j1 with ⟨e, e1, e2⟩ | ⟨e, e1, e2⟩
          · omega
          · rw [hkeep (by omega)]
            exact Or.inr ⟨by omega, e1, e2⟩
        · refine wp_rfd (rR i rfl (by omega) ?_)
          rw [show pl (s2 (pl (s2 136 0)) i) = PL s2 i from rfl]
          refine rI (fuF (ldv V) i (ln V i - 1)) rfl (by omega) (wp_lt ?_)
          rw [(d1.1 i hi _ (by omega)).1]
          refine hrec _ _ _ ⟨Or.inr ⟨by omega, ?_, ?_⟩, rfl⟩
          · rw [htake (by omega)]; omega
          · rw [htake (by omega)]
      · rintro n x y s ⟨j1, rfl⟩
        rw [fX6_fullest_L26, d2.1.2.1]
        refine iLe (fun _ => ?_) (fun h => by omega)
        rcases j1 with ⟨e, _⟩ | ⟨e, rfl, rfl⟩
        · omega
        · rw [w32_sm (by omega) (by omega)]
          refine wp_bnd _ (c_putOne fu h.1 d2) ?_
          intro _ s3 ⟨q1, q2, q3⟩
          exact wp_some ⟨rfl, q1, d3.trans q2⟩
    · unfold fX7_fullest
      refine wp_stf ?_
      rw [hR.s20.1.j (by omega)]
      refine iNe0 (fun _ => ?_) (fun g => absurd g h0)
      refine wp_bnd _ (r_loads h hfu hR.s20) ?_
      intro _ s2 ⟨d1, d2, d3, d4, d5⟩
      refine for2 (f := fX7_fullest_L23 fu _) (nn V) (fun i x s => x = (bst V (ldv V) i : Int) ∧ s2 = s) ?_ ?_ (i := 0) ⟨rfl, rfl⟩
      · rintro n i x s hi ⟨rfl, rfl⟩ hrec
        have h8 := h.1.len hi
        have hbi := bst_lt (X := ldv V) h.1 i (by omega)
        rw [fX7_fullest_L23, d3.1.j (by omega)]
        refine iLe (fun h => by omega) (fun _ => ?_)
        refine for2 (f := fX7_fullest_L33 fu (i : Int) _) (ln V i - 1) (fun p x s => x = (scn (ldv V) i (bst V (ldv V) i) p : Int) ∧ scn (ldv V) i (bst V (ldv V) i) p < 96 ∧ s2 = s) ?_ ?_ (i := 0) ⟨rfl, by show bst V (ldv V) i < 96; omega, rfl⟩
        · rintro n p x s hp ⟨rfl, hsl, rfl⟩ hrec2
          have b1 := hbx (8 * i + p)
          have b2 := hbx (scn (ldv V) i (bst V (ldv V) i) p)
          rw [fX7_fullest_L33]
          refine rI i rfl (by omega) ?_
          rw [d3.1.2 330 _ (by omega) (by omega)]
          refine iLe (fun h => by omega) (fun _ => ?_)
          unfold fX7_at
          refine wp_bs ?_
          refine rI (8 * i + p) (by omega) (by omega) (rI (scn (ldv V) i (bst V (ldv V) i) p) rfl hsl ?_)
          rw [(d1.1 _ (show 8 * i + p < 96 by omega)).1, (d1.1 _ hsl).1]
          refine wp_jn (jLe (fun g => hrec2 _ _ ?_) (fun g => wp_bs (hrec2 _ _ ?_)))
          · rw [scn_keep (by omega)]; exact ⟨rfl, hsl, rfl⟩
          · rw [scn_take (by omega)]; exact ⟨by omega, by omega, rfl⟩
        · rintro n x s ⟨rfl, hsl, rfl⟩
          rw [fX7_fullest_L33]
          refine rI i rfl (by omega) ?_
          rw [d3.1.2 330 _ (by omega) (by omega)]
          exact iLe (fun _ => hrec _ _ ⟨rfl, rfl⟩) (fun h => by omega)
      · rintro n x s ⟨rfl, rfl⟩
        rw [fX7_fullest_L23, d3.1.j (by omega)]
        refine iLe (fun _ => ?_) (fun h => by omega)
        have h96 : bst V (ldv V) (nn V) < 96 := by omega
        refine wp_stf ?_
        refine rI (bst V (ldv V) (nn V)) rfl h96 ?_
        rw [ms_k (by omega), (d1.1 _ h96).1]
        refine wp_bnd _ (r_tell fu (by rw [emp_19]; omega) (r_emp d3)) ?_
        intro _ s3 ⟨q1, q2, q3⟩
        refine wp_dv32 (by omega) (by omega) (wp_dv32 (by omega) (by omega) ?_)
        have hdr : ∀ b : Nat, b < 96 → div32 (b : Int) 8 = ((b / 8 : Nat) : Int) ∧ rem32 (b : Int) 8 = ((b % 8 : Nat) : Int) := by decide +kernel
        rw [(hdr _ h96).1, (hdr _ h96).2]
        exact wp_some ⟨rfl, q1, ((lo20 σ 0).trans (lo19 d4 0)).trans q2⟩
end TOT
