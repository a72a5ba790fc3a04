/-! ===== the call skips ===== -/
section SKIPOP
variable {V σ σ' : Mem} {c : Nat → Int} {l p s q t k j l' m fu P R : Nat} {a b x : Int}
theorem c_copyWay (hfu : 1000 < fu) (hap : P + 3 < R ∨ R + 3 < P) : wp (fX1_copyWay fu R P σ) (fun _ σ' => σ' R 1 = σ P 1 ∧ (∀ q, q < 8 → σ' (R + 1) q = σ (P + 1) q ∧ σ' (R + 2) q = σ (P + 2) q ∧ σ' (R + 3) q = σ (P + 3) q) ∧ ∀ k j, (k = R ∧ j = 1) ∨ (R + 1 ≤ k ∧ k ≤ R + 3 ∧ j < 8) ∨ σ' k j = σ k j) := by
  unfold fX1_copyWay
  refine wp_stf ?_
  have k1 : mset σ R 1 (σ P 1) R 1 = σ P 1 := ms_eq _ _ _ _
  have k2 : ∀ k j, ¬ (k = R ∧ j = 1) → mset σ R 1 (σ P 1) k j = σ k j := fun k j g => by rw [mset_eq, if_neg g]
  generalize mset σ R 1 (σ P 1) = s1 at *
  refine for1 (f := fX1_copyWay_L10 fu R P _) 8 (fun i s => (∀ q, q < i → s (R + 1) q = σ (P + 1) q ∧ s (R + 2) q = σ (P + 2) q ∧ s (R + 3) q = σ (P + 3) q) ∧ ∀ k j, (R + 1 ≤ k ∧ k ≤ R + 3 ∧ j < i) ∨ s k j = s1 k j) ?_ ?_ (i := 0) ⟨fun q hq => by omega, fun k j => Or.inr rfl⟩
  · intro n i s hi ⟨j1, j2⟩ hrec
    rw [fX1_copyWay_L10]
    refine iLe (fun h => by omega) (fun _ => ?_)
    have es : ∀ k j, P + 1 ≤ k → k ≤ P + 3 → s k j = σ k j := fun k j a b => by have := j2 k j; have := k2 k j (by omega); omega
    refine rI i rfl hi (wI i rfl hi (rI i rfl hi (wI i rfl hi (rI i rfl hi (wI i rfl hi ?_)))))
    rw [ms_k (show P + 2 ≠ R + 1 by omega), ms_k (show P + 3 ≠ R + 2 by omega), ms_k (show P + 3 ≠ R + 1 by omega), es _ _ (by omega) (by omega), es _ _ (by omega) (by omega), es _ _ (by omega) (by omega)]
    refine hrec _ ⟨fun q hq => ?_, fun k j => ?_⟩
    · by_cases e : q = i
      · rw [e]
        refine ⟨?_, ?_, ms_eq _ _ _ _⟩
        · rw [ms_k (by omega), ms_k (by omega), ms_eq]
        · rw [ms_k (by omega), ms_eq]
      · have := j1 q (by omega)
        refine ⟨?_, ?_, ?_⟩
        · rw [ms_j e, ms_j e, ms_j e]; exact this.1
        · rw [ms_j e, ms_j e, ms_j e]; exact this.2.1
        · rw [ms_j e, ms_j e, ms_j e]; exact this.2.2
    · by_cases e : R + 1 ≤ k ∧ k ≤ R + 3 ∧ j = i
      · left; omega
      · rw [mset_eq, if_neg (by omega), mset_eq, if_neg (by omega), mset_eq, if_neg (by omega)]; have := j2 k j; omega
  · intro n s ⟨j1, j2⟩
    rw [fX1_copyWay_L10]
    refine iLe (fun _ => wp_some ⟨?_, j1, fun k j => ?_⟩) (fun h => by omega)
    · rw [← k1]; have := j2 R 1; omega
    · by_cases e : (k = R ∧ j = 1) ∨ (R + 1 ≤ k ∧ k ≤ R + 3 ∧ j < 8)
      · omega
      · have := j2 k j; have := k2 k j (by omega); omega
theorem c_omit (hfu : 1000 < fu) (hm : σ P 1 = (m : Int)) (hm8 : m ≤ 8) (h0 : 1 ≤ p) (hp : p + 1 < m) (h2 : ∀ q, q + 1 < m → 0 ≤ σ (P + 2) q ∧ σ (P + 2) q ≤ 99 ∧ 0 ≤ σ (P + 3) q ∧ σ (P + 3) q ≤ 100000) : wp (fX1_omit fu P (p : Int) σ) (fun _ σ' => σ' P 1 = (m : Int) - 1 ∧ (∀ q, q < p → σ' (P + 1) q = σ (P + 1) q) ∧ (∀ q, p ≤ q → q + 1 < m → σ' (P + 1) q = σ (P + 1) (q + 1)) ∧ (∀ k, k = P + 2 ∨ k = P + 3 → (∀ q, q + 1 < p → σ' k q = σ k q) ∧ (∀ q, q + 1 = p → σ' k q = σ k q + σ k (q + 1)) ∧ (∀ q, p ≤ q → q + 1 < m → σ' k q = σ k (q + 1))) ∧ ∀ k j, (k = P ∧ j = 1) ∨ (P + 1 ≤ k ∧ k ≤ P + 3 ∧ j < 8) ∨ σ' k j = σ k j) := by
  unfold fX1_omit
  refine wp_jn ?_
  rw [hm]
  refine iLt (fun h => by omega) (fun _ => ?_)
  refine iLt (fun _ => ?_) (fun h => by omega)
  refine rI (p - 1) (by omega) (by omega) (rI p rfl (by omega) (wI (p - 1) (by omega) (by omega) ?_))
  refine rI (p - 1) (by omega) (by omega) (rI p rfl (by omega) (wI (p - 1) (by omega) (by omega) ?_))
  rw [ms_k (show P + 3 ≠ P + 2 by omega), ms_k (show P + 3 ≠ P + 2 by omega)]
  have k1 : ∀ k j, ¬ ((k = P + 2 ∨ k = P + 3) ∧ j = p - 1) → mset (mset σ (P + 2) (p - 1) (σ (P + 2) (p - 1) + σ (P + 2) p)) (P + 3) (p - 1) (σ (P + 3) (p - 1) + σ (P + 3) p) k j = σ k j := fun k j g => by rw [mset_eq, if_neg (by omega), mset_eq, if_neg (by omega)]
  have k2 : mset (mset σ (P + 2) (p - 1) (σ (P + 2) (p - 1) + σ (P + 2) p)) (P + 3) (p - 1) (σ (P + 3) (p - 1) + σ (P + 3) p) (P + 2) (p - 1) = σ (P + 2) (p - 1) + σ (P + 2) p := by rw [ms_k (by omega), ms_eq]
  have k3 : mset (mset σ (P + 2) (p - 1) (σ (P + 2) (p - 1) + σ (P + 2) p)) (P + 3) (p - 1) (σ (P + 3) (p - 1) + σ (P + 3) p) (P + 3) (p - 1) = σ (P + 3) (p - 1) + σ (P + 3) p := ms_eq _ _ _ _
  generalize mset (mset σ (P + 2) (p - 1) (σ (P + 2) (p - 1) + σ (P + 2) p)) (P + 3) (p - 1) (σ (P + 3) (p - 1) + σ (P + 3) p) = s3 at *
  refine for1 (f := fX1_omit_L52 fu P _) (m - 1) (fun i s => p ≤ i ∧ (∀ q, p ≤ q → q < i → s (P + 1) q = s3 (P + 1) (q + 1) ∧ s (P + 2) q = s3 (P + 2) (q + 1) ∧ s (P + 3) q = s3 (P + 3) (q + 1)) ∧ ∀ k j, (P + 1 ≤ k ∧ k ≤ P + 3 ∧ p ≤ j ∧ j < i) ∨ s k j = s3 k j) ?_ ?_ (i := p) ⟨Nat.le_refl _, fun q h1 h2 => by omega, fun k j => Or.inr rfl⟩
  · intro n i s hi ⟨j0, j1, j2⟩ hrec
    rw [fX1_omit_L52]
    have e1 : s P 1 = (m : Int) := by rw [← hm]; have := j2 P 1; have := k1 P 1 (by omega); omega
    rw [e1]
    refine iLe (fun h => by omega) (fun _ => ?_)
    refine rI (i + 1) (by omega) (by omega) (wI i rfl (by omega) ?_)
    refine rI (i + 1) (by omega) (by omega) (wI i rfl (by omega) ?_)
    refine rI (i + 1) (by omega) (by omega) (wI i rfl (by omega) ?_)
    have es : ∀ k, s k (i + 1) = s3 k (i + 1) := fun k => by have := j2 k (i + 1); omega
    rw [ms_k (show P + 2 ≠ P + 1 by omega), ms_k (show P + 3 ≠ P + 2 by omega), ms_k (show P + 3 ≠ P + 1 by omega), es, es, es]
    refine hrec _ ⟨by omega, fun q h1 h2 => ?_, fun k j => ?_⟩
    · by_cases e : q = i
      · rw [e]
        refine ⟨?_, ?_, ms_eq _ _ _ _⟩
        · rw [ms_k (by omega), ms_k (by omega), ms_eq]
        · rw [ms_k (by omega), ms_eq]
      · have := j1 q h1 (by omega)
        refine ⟨?_, ?_, ?_⟩
        · rw [ms_j e, ms_j e, ms_j e]; exact this.1
        · rw [ms_j e, ms_j e, ms_j e]; exact this.2.1
        · rw [ms_j e, ms_j e, ms_j e]; exact this.2.2
    · by_cases e : P + 1 ≤ k ∧ k ≤ P + 3 ∧ j = i
      · left; omega
      · rw [mset_eq, if_neg (by omega), mset_eq, if_neg (by omega), mset_eq, if_neg (by omega)]; have := j2 k j; omega
  · intro n s ⟨j0, j1, j2⟩
    rw [fX1_omit_L52]
    have e1 : s P 1 = (m : Int) := by rw [← hm]; have := j2 P 1; have := k1 P 1 (by omega); omega
    rw [e1]
    refine iLe (fun _ => ?_) (fun h => by omega)
    refine wp_stf ?_
    have hout : ∀ k j, ¬ (k = P ∧ j = 1) → mset s P 1 ((m : Int) - 1) k j = s k j := fun k j g => by rw [mset_eq, if_neg g]
    refine wp_some ⟨ms_eq _ _ _ _, fun q hq => ?_, fun q h1 h3 => ?_, fun k hk => ⟨fun q hq => ?_, fun q hq => ?_, fun q h1 h3 => ?_⟩, fun k j => ?_⟩
    · rw [hout _ _ (by omega), ← k1 (P + 1) q (by omega)]; have := j2 (P + 1) q; omega
    · rw [hout _ _ (by omega), (j1 q h1 (by omega)).1]; exact k1 _ _ (by omega)
    · rw [hout _ _ (by omega), ← k1 k q (by omega)]; have := j2 k q; omega
    · have e : q = p - 1 := by omega
      rw [hout _ _ (by omega)]
      rcases hk with rfl | rfl
      · rw [e, show p - 1 + 1 = p by omega, ← k2]; have := j2 (P + 2) (p - 1); omega
      · rw [e, show p - 1 + 1 = p by omega, ← k3]; have := j2 (P + 3) (p - 1); omega
    · have := j1 q h1 (by omega)
      rw [hout _ _ (by omega)]
      rcases hk with rfl | rfl
      · rw [this.2.1]; exact k1 _ _ (by omega)
      · rw [this.2.2]; exact k1 _ _ (by omega)
    · by_cases e : (k = P ∧ j = 1) ∨ (P + 1 ≤ k ∧ k ≤ P + 3 ∧ j < 8)
      · omega
      · rw [hout _ _ (by omega), ← k1 k j (by omega)]; have := j2 k j; omega
theorem Cls.gen2 (h : Cls V σ) (ok : OkN V) (g : ∀ k j, ¬ scrC k j → k < 323 → ¬ (272 ≤ k ∧ k ≤ 282) → σ' k j = σ k j) : Cls V σ' := by
  obtain ⟨h1, h2, h3, h4, h5, h6, h7, h8⟩ := h
  obtain ⟨t1, t2, t3⟩ := tab_mv h1 (σ' := σ') (g _ _ (by omega) (by omega) (by omega)) (g _ _ (by omega) (by omega) (by omega)) (fun j => g _ _ (by omega) (by omega) (by omega)) (fun j => g _ _ (by omega) (by omega) (by omega))
  refine ⟨t1, ?_, ?_, ?_, ?_, ?_, fun s hs => ?_, fun l hl => ?_⟩
  · rw [g _ _ (by omega) (by omega) (by omega)]; exact h2
  · rw [g _ _ (by omega) (by omega) (by omega)]; exact h3
  · rw [g _ _ (by omega) (by omega) (by omega)]; exact h4
  · rw [g _ _ (by omega) (by omega) (by omega)]; exact h5
  · rw [g _ _ (by omega) (by omega) (by omega)]; exact h6
  · rw [g _ _ (by omega) (by omega) (by omega), g _ _ (by omega) (by omega) (by omega)]; exact h7 s hs
  · rw [t2]
    have hP := h1.2.1 l (by have := ok.n; omega)
    exact ln_mv (h8 l hl) hP (fun k j a b => g k j (by omega) (by omega) (by omega))
theorem c_findTotal2 (ok : OkN V) (h37 : V 328 37 = -1) (hfu : 1000 < fu) (hC : Cls V σ) : wp (fX2_findTotal fu σ) (fun _ σ' => σ' 136 8 = totv V ∧ σ' 136 9 = strv V ∧ CP σ σ') := by
  have hgl := ok.go
  unfold fX2_findTotal
  refine wp_bnd _ (c_findCosts ok hfu hC h37) ?_
  intro _ s2 ⟨d1, d4⟩
  have d2 := hC.mv ok d4
  refine wp_stf (wp_stf ?_)
  refine for1 (f := fX2_findTotal_L16 fu _) 10 (fun i s => s 136 8 = smf (tt1 V) i ∧ s 136 9 = smf (ss1 V) i ∧ ∀ k j, (k = 136 ∧ (j = 8 ∨ j = 9)) ∨ s k j = s2 k j) ?_ ?_ (i := 0) ⟨by rw [ms_j (by omega), ms_eq]; rfl, by rw [ms_eq]; rfl, fun k j => ?_⟩
  · intro n i s3 hi ⟨j1, j2, j3⟩ hrec
    have hv := cv_b ok i
    have hr := rid_b ok i hi
    have e4 : s3 136 4 = V 328 11 := by rw [← d2.2.2.2.1]; have := j3 136 4; omega
    have e2 : s3 (283 + 4 * i) 2 = cv V i := by rw [← (d1.1 i hi).1]; have := j3 (283 + 4 * i) 2; omega
    have e0 : s3 (283 + 4 * i) 0 = V 338 i := by rw [← (d2.2.2.2.2.2.2.1 i hi).1]; have := j3 (283 + 4 * i) 0; omega
    rw [fX2_findTotal_L16]
    refine iLe (fun h => by omega) (fun _ => ?_)
    refine rS i rfl hi ?_
    rw [e2, e4, e0, w32_sm (x := V 338 i) (by omega) (by omega)]
    refine wp_jn (iEq (fun g => ?_) (fun g => ?_))
    · refine iEq (fun g2 => hrec _ ⟨?_, ?_, j3⟩) (fun g2 => wp_stf (hrec _ ⟨?_, ?_, fun k j => ?_⟩))
      · simp only [smf]; unfold tt1; rw [if_neg (by omega)]; exact (by rw [j1]; unfold tt1; omega)
      · simp only [smf]; rw [show ss1 V i = 0 by unfold ss1; rw [if_neg (by omega)]]; omega
      · rw [ms_j (by omega)]; simp only [smf]; rw [show tt1 V i = 0 by unfold tt1; rw [if_neg (by omega)]]; omega
      · rw [ms_eq, j2]; simp only [smf]; rw [show ss1 V i = V 338 i by unfold ss1; rw [if_pos (by omega)]]
      · by_cases e : k = 136 ∧ j = 9
        · left; omega
        · rw [mset_eq, if_neg e]; exact j3 k j
    · rw [w32_sm (x := cv V i) (by omega) (by omega)]
      refine wp_stf (hrec _ ⟨?_, ?_, fun k j => ?_⟩)
      · rw [ms_eq, j1]; simp only [smf]; rw [show tt1 V i = V 338 i * cv V i by unfold tt1; rw [if_pos (by omega)]]
      · rw [ms_j (by omega)]; simp only [smf]; rw [show ss1 V i = 0 by unfold ss1; rw [if_neg (by omega)]]; omega
      · by_cases e : k = 136 ∧ j = 8
        · left; omega
        · rw [mset_eq, if_neg e]; exact j3 k j
  · intro n s3 ⟨j1, j2, j3⟩
    rw [fX2_findTotal_L16]
    refine iLe (fun _ => ?_) (fun h => by omega)
    have hCP : CP s2 s3 := fun k j => by have := j3 k j; omega
    exact wp_some ⟨j1, j2, d4.trans hCP⟩
  · by_cases e : k = 136 ∧ (j = 8 ∨ j = 9)
    · exact Or.inl e
    · rw [mset_eq, if_neg (by omega), mset_eq, if_neg (by omega)]; exact Or.inr rfl
theorem c_skipping (h : OkA t V) (hfu : 1000 < fu) (hl : l < nn V) (h0 : 1 ≤ p) (hp : p + 1 < ln V l) (hC : ClsA V σ) : wp (fX2_findTotalSkipping fu (PL σ l) (p : Int) σ) (fun _ σ' => σ' 136 8 = totv (skv V l p) ∧ σ' 136 9 = strv (skv V l p) ∧ ClsA V σ' ∧ Hi σ σ') := by
  have hn := h.1.n
  have hlen := h.1.len hl
  have hst := h.2.2.1.2.2
  obtain ⟨hc, hTx, hRw⟩ := hC
  obtain ⟨c1, c2, c3, c4, c5, c6, c7, c8⟩ := hc
  have hPL := c1.2.1 l (by omega)
  obtain ⟨a1, a2, a3, a4, a5, a6, a7⟩ := c8 l hl
  have hother : ∀ l', l' < nn V → l' ≠ l → PL σ l' + 10 < PL σ l ∨ PL σ l + 10 < PL σ l' := fun l' hl' e => by
    have h1 := c1.2.1 l' (by omega)
    have h2 : PL σ l' ≠ PL σ l := fun g => e (c1.2.2.2.1 l' l (by omega) (by omega) g)
    omega
  have hPq : ∃ P, P = PL σ l := ⟨_, rfl⟩
  obtain ⟨P, hP⟩ := hPq
  rw [← hP] at a1 a2 a3 a4 a5 a6 a7 hPL hother ⊢
  unfold fX2_findTotalSkipping
  refine wp_bnd _ (c_copyWay (σ := σ) (P := P) (R := 272) hfu (by omega)) ?_
  rintro _ s1 ⟨b1, b2, b3⟩
  have e1 : ∀ k j, ¬ (272 ≤ k ∧ k ≤ 275) → s1 k j = σ k j := fun k j g => by have := b3 k j; omega
  have hok := h.1.ok hl
  refine wp_bnd _ (c_omit (σ := s1) (P := P) (m := ln V l) hfu (by rw [e1 _ _ (by omega), a2]; omega) (by omega) h0 hp (fun q hq => ?_)) ?_
  · rw [e1 _ _ (by omega), e1 _ _ (by omega), (a7 q hq).1, (a7 q hq).2.1]
    have x1 := hst l hl q hq
    have x2 := hok.2.2.2.2.2.2.2 q hq
    omega
  rintro _ s2 ⟨d1, d2, d3, d4, d5⟩
  have e2 : ∀ k j, ¬ (272 ≤ k ∧ k ≤ 275) → ¬ (k = P ∧ j = 1) → ¬ (P + 1 ≤ k ∧ k ≤ P + 3 ∧ j < 8) → s2 k j = σ k j := fun k j g1 g2 g3 => by have := d5 k j; have := e1 k j g1; omega
  obtain ⟨t1, t2, t3⟩ := tab_mv c1 (σ' := s2) (e2 _ _ (by omega) (by omega) (by omega)) (e2 _ _ (by omega) (by omega) (by omega)) (fun j => e2 _ _ (by omega) (by omega) (by omega)) (fun j => e2 _ _ (by omega) (by omega) (by omega))
  have hL1 : ∀ q, q < ln V l → s1 (P + 1) q = V 331 (8 * l + q) := fun q hq => by rw [e1 _ _ (by omega)]; exact a6 q hq
  have hL2 : ∀ q, q + 1 < ln V l → s1 (P + 2) q = V 332 (8 * l + q) ∧ s1 (P + 3) q = V 333 (8 * l + q) := fun q hq => by rw [e1 _ _ (by omega), e1 _ _ (by omega)]; exact ⟨(a7 q hq).1, (a7 q hq).2.1⟩
  have hCv : Cls (skv V l p) s2 := by
    refine ⟨t1, ?_, ?_, ?_, ?_, ?_, fun s hs => ?_, fun l' hl' => ?_⟩
    · rw [e2 _ _ (by omega) (by omega) (by omega), skv_o (by omega)]; exact c2
    · rw [e2 _ _ (by omega) (by omega) (by omega), skv_o (by omega)]; exact c3
    · rw [e2 _ _ (by omega) (by omega) (by omega), skv_o (by omega)]; exact c4
    · rw [e2 _ _ (by omega) (by omega) (by omega), skv_o (by omega)]; exact c5
    · rw [e2 _ _ (by omega) (by omega) (by omega), skv_o (by omega)]; exact c6
    · rw [e2 _ _ (by omega) (by omega) (by omega), e2 _ _ (by omega) (by omega) (by omega), skv_o (by omega), skv_o (by omega)]; exact c7 s hs
    · rw [sk_nn] at hl'
      rw [t2]
      by_cases e : l' = l
      · rw [e, ← hP]
        refine ⟨?_, ?_, ?_, ?_, ?_, fun q hq => ?_, fun q hq => ?_⟩
        · rw [e2 _ _ (by omega) (by omega) (by omega), skv_o (by omega)]; exact a1
        · rw [d1, skv_h]; omega
        · rw [e2 _ _ (by omega) (by omega) (by omega), skv_o (by omega)]; exact a3
        · rw [e2 _ _ (by omega) (by omega) (by omega), skv_o (by omega)]; exact a4
        · rw [e2 _ _ (by omega) (by omega) (by omega), skv_o (by omega)]; exact a5
        · rw [sk_ln h.1 hl] at hq
          by_cases g : p ≤ q
          · rw [skv_a (by omega) g (by omega), d3 q g (by omega)]; exact hL1 _ (by omega)
          · rw [skv_c (by omega) (by omega) (by omega), d2 q (by omega)]; exact hL1 _ (by omega)
        · rw [sk_ln h.1 hl] at hq
          have f2 := d4 (P + 2) (by omega)
          have f3 := d4 (P + 3) (by omega)
          have x1 := hL2 q (by omega)
          have x2 := hL2 (q + 1) (by omega)
          refine ⟨?_, ?_, ?_⟩
          · by_cases g : p ≤ q
            · rw [skv_a (by omega) g (by omega), f2.2.2 q g (by omega)]; exact x2.1
            · by_cases g2 : q + 1 = p
              · rw [skv_b (by omega) g2, f2.2.1 q g2, x1.1, x2.1]
              · rw [skv_c (by omega) (by omega) (by omega), f2.1 q (by omega)]; exact x1.1
          · by_cases g : p ≤ q
            · rw [skv_a (by omega) g (by omega), f3.2.2 q g (by omega)]; exact x2.2
            · by_cases g2 : q + 1 = p
              · rw [skv_b (by omega) g2, f3.2.1 q g2, x1.2, x2.2]
              · rw [skv_c (by omega) (by omega) (by omega), f3.1 q (by omega)]; exact x1.2
          · rw [e2 _ _ (by omega) (by omega) (by omega), skv_o (by omega)]; exact (a7 q (by omega)).2.2
      · have hlen' := h.1.len hl'
        have hap := hother l' hl' e
        have hP' := c1.2.1 l' (by omega)
        obtain ⟨q1, q2, q3, q4, q5, q6, q7⟩ := c8 l' hl'
        have e3 : ∀ k j, PL σ l' ≤ k → k ≤ PL σ l' + 4 → s2 k j = σ k j := fun k j g1 g2 => e2 k j (by omega) (by omega) (by omega)
        refine ⟨?_, ?_, ?_, ?_, ?_, fun q hq => ?_, fun q hq => ?_⟩
        · rw [e3 _ _ (by omega) (by omega), skv_o (by omega)]; exact q1
        · rw [e3 _ _ (by omega) (by omega), skv_ho e]; exact q2
        · rw [e3 _ _ (by omega) (by omega), skv_o (by omega)]; exact q3
        · rw [e3 _ _ (by omega) (by omega), skv_o (by omega)]; exact q4
        · rw [e3 _ _ (by omega) (by omega), skv_o (by omega)]; exact q5
        · rw [sk_lno e] at hq
          rw [e3 _ _ (by omega) (by omega), skv_l (by omega) e (by omega) (by omega)]; exact q6 q hq
        · rw [sk_lno e] at hq
          rw [e3 _ _ (by omega) (by omega), e3 _ _ (by omega) (by omega), e3 _ _ (by omega) (by omega), skv_l (by omega) e (by omega) (by omega), skv_l (by omega) e (by omega) (by omega), skv_o (by omega)]; exact q7 q hq
  have okv := sk_ok h.1 hst hl h0 hp
  refine wp_bnd _ (c_findTotal2 okv (by rw [skv_o (by omega)]; exact h.2.1) hfu hCv) ?_
  rintro _ s3 ⟨f1, f2, f3⟩
  have e3 : ∀ k j, ¬ scrC k j → s3 k j = s2 k j := fun k j g => (f3 k j).resolve_left g
  refine wp_bnd _ (c_copyWay (σ := s3) (P := 272) (R := P) hfu (by omega)) ?_
  rintro _ s4 ⟨g1, g2, g3⟩
  have e4 : ∀ k j, ¬ (k = P ∧ j = 1) → ¬ (P + 1 ≤ k ∧ k ≤ P + 3 ∧ j < 8) → s4 k j = s3 k j := fun k j w1 w2 => by have := g3 k j; omega
  have hback : ∀ k j, ¬ scrC k j → ¬ (272 ≤ k ∧ k ≤ 282) → s4 k j = σ k j := by
    intro k j w1 w2
    have h27 : ∀ r j, 272 ≤ r → r ≤ 275 → s3 r j = s1 r j := fun r j v1 v2 => by
      rw [e3 _ _ (by omega)]
      have := d5 r j
      omega
    by_cases v1 : k = P ∧ j = 1
    · rw [v1.1, v1.2, g1, h27 _ _ (by omega) (by omega), b1]
    · by_cases v2 : P + 1 ≤ k ∧ k ≤ P + 3 ∧ j < 8
      · have y1 := g2 j v2.2.2
        have y2 := b2 j v2.2.2
        rcases (show k = P + 1 ∨ k = P + 2 ∨ k = P + 3 by omega) with e | e | e
        · rw [e, y1.1, h27 _ _ (by omega) (by omega)]; exact y2.1
        · rw [e, y1.2.1, h27 _ _ (by omega) (by omega)]; exact y2.2.1
        · rw [e, y1.2.2, h27 _ _ (by omega) (by omega)]; exact y2.2.2
      · rw [e4 k j v1 v2, e3 k j w1]; exact e2 k j (by omega) v1 v2
  refine wp_some ⟨by rw [e4 _ _ (by omega) (by omega)]; exact f1, by rw [e4 _ _ (by omega) (by omega)]; exact f2, ⟨Cls.gen2 ⟨c1, c2, c3, c4, c5, c6, c7, c8⟩ h.1 (fun k j w1 _ w3 => hback k j w1 w3), ⟨by rw [hback _ _ (by omega) (by omega)]; exact hTx.1, fun i hi => by rw [hback _ _ (by omega) (by omega)]; exact hTx.2 i hi⟩, ⟨by rw [hback _ _ (by omega) (by omega)]; exact hRw.1, fun i hi => by rw [hback _ _ (by omega) (by omega)]; exact hRw.2 i hi⟩⟩, fun k j hk => hback k j (by omega) (by omega)⟩
theorem op_skips (h : OkA t V) (hfu : 1000 < fu) (ha : R32 a) (hb : R32 b) : Op t V (fX6_skips fu a b) (fX7_skips fu a b) := by
  have hn := h.1.n
  by_cases hc : 0 ≤ a ∧ a < V 328 9 ∧ 0 ≤ b ∧ b < V 330 a.toNat - 1
  · by_cases h0 : b = 0
    · refine op_same h (-1) (fun σ hC => ?_) (fun σ hR => ?_)
      · unfold fX6_skips
        refine wp_bnd _ (c_hasStep h.1 hC.1 ha hb) ?_
        rintro x s' ⟨g0, g1, rfl⟩
        refine wp_jn (iEq0 (fun _ => wp_some ⟨rfl, CP.refl σ⟩) (fun _ => ?_))
        exact iNe0 (fun g => absurd h0 g) (fun _ => wp_some ⟨rfl, CP.refl σ⟩) hb
      · unfold fX7_skips
        refine wp_stf ?_
        refine wp_bnd _ (r_isStep h.1 hR.s20.1 ha hb) ?_
        rintro x s' ⟨g0, g1, rfl⟩
        refine wp_jn (iEq0 (fun _ => wp_some ⟨rfl, rp20 σ 0⟩) (fun _ => ?_))
        exact iNe0 (fun g => absurd h0 g) (fun _ => wp_some ⟨rfl, rp20 σ 0⟩) hb
    · obtain ⟨l, rfl⟩ : ∃ l : Nat, a = (l : Int) := ⟨a.toNat, by omega⟩
      obtain ⟨p, rfl⟩ : ∃ p : Nat, b = (p : Int) := ⟨b.toNat, by omega⟩
      rw [Int.toNat_natCast] at hc
      have hl : l < nn V := by omega
      have hlen := h.1.len hl
      have hp0 : 1 ≤ p := by omega
      have hp : p + 1 < ln V l := by omega
      obtain ⟨et, es⟩ := sk_cv h.1 h.2.2.1.2.2 h.2.1 hl hp0 hp
      refine ⟨totv (skv V l p), row2 V (totv (skv V l p) - totv V) (strv (skv V l p)), (row2_ok h).up, fun σ hC => ?_, fun σ hR => ?_⟩
      · unfold fX6_skips
        refine wp_bnd _ (c_hasStep h.1 hC.1 ha hb) ?_
        rintro x s' ⟨g0, g1, rfl⟩
        rw [Int.toNat_natCast] at g1
        refine wp_jn (iEq0 (fun q => by omega) (fun _ => ?_))
        refine iNe0 (fun _ => ?_) (fun g => absurd g h0) hb
        refine wp_bnd _ (c_totalNow h hfu hC) ?_
        rintro x s2 ⟨rfl, d2, d3, d4, d5⟩
        refine wp_rfd (rR l rfl (by omega) ?_)
        rw [show pl (s2 (pl (s2 136 0)) l) = PL s2 l from rfl]
        refine wp_bnd _ (c_skipping h hfu hl hp0 hp d3) ?_
        rintro _ s4 ⟨w1, w2, w3, w4⟩
        refine wp_bnd _ (c_tellDiff (A := totv (skv V l p)) (B := strv (skv V l p)) h.1 w3 w1 w2) ?_
        rintro y s5 ⟨rfl, v1, v2⟩
        exact wp_some ⟨rfl, v1, (d4.trans w4).trans v2⟩
      · unfold fX7_skips
        refine wp_stf ?_
        refine wp_bnd _ (r_isStep h.1 hR.s20.1 ha hb) ?_
        rintro x s' ⟨g0, g1, rfl⟩
        rw [Int.toNat_natCast] at g1
        refine wp_jn (iEq0 (fun q => by omega) (fun _ => ?_))
        refine iNe0 (fun _ => ?_) (fun g => absurd g h0) hb
        refine wp_bnd _ (r_before h hfu hR.s20) ?_
        rintro x s4 ⟨rfl, d2, d3, d4, d5⟩
        refine wp_stf ?_
        unfold fX7_at
        refine wp_bs (wp_stf ?_)
        have e37 : (8 : Int) * (l : Int) + (p : Int) = ((8 * l + p : Nat) : Int) := by omega
        have hRw : Ref (skw V l p) (mset (mset s4 328 47 (totv V)) 328 37 ((8 * l + p : Nat) : Int)) := by
          refine ⟨fun j hj => ?_, fun k j g1 g2 => ?_⟩
          · by_cases e : j = 37
            · rw [e, ms_eq, skw_37]
            · rw [ms_j e, ms_j (by omega), skw_o (by omega)]; exact d3.1.1 j hj
          · rw [ms_k (by omega), ms_k (by omega), skw_o (by omega)]; exact d3.1.2 k j g1 g2
        rw [e37]
        refine wp_bnd _ (r_beforeR (V := skw V l p) (skw_ok h.1) (by rw [skw_37]; omega) hfu hRw (fun s hs => by rw [ms_k (by omega), ms_k (by omega), skw_o (by omega)]; exact d3.2.1 s hs)) ?_
        rintro x s8 ⟨rfl, f2, f3⟩
        have ek : ∀ k j, ¬ (k = 328 ∧ (j = 37 ∨ j = 47 ∨ j = 36)) → ¬ (346 ≤ k ∧ k ≤ 353) → mset s8 328 37 (-1) k j = s4 k j := fun k j g1 g2 => by rw [mset_eq, if_neg (by omega), f3.at (by omega), mset_eq, if_neg (by omega), mset_eq, if_neg (by omega)]
        have hRA : RefA V (mset s8 328 37 (-1)) := by
          obtain ⟨h1, h2, h3, h4, h5, h6⟩ := d3
          refine ⟨⟨fun j hj => ?_, fun k j a b => by rw [ek _ _ (by omega) (by omega)]; exact h1.2 k j a b⟩, fun s hs => by rw [ek _ _ (by omega) (by omega)]; exact h2 s hs, by rw [ek _ _ (by omega) (by omega)]; exact h3, fun i => by rw [ek _ _ (by omega) (by omega)]; exact h4 i, by rw [ek _ _ (by omega) (by omega)]; exact h5, fun i => by rw [ek _ _ (by omega) (by omega)]; exact h6 i⟩
          by_cases e : j = 37
          · rw [e, ms_eq]; exact h.2.1.symm
          · rw [ek _ _ (by omega) (by omega)]; exact h1.1 j hj
        have e47 : mset s8 328 37 (-1) 328 47 = totv V := by rw [ms_j (by omega), f3.at (by omega), ms_j (by omega), ms_eq]
        refine wp_stf ?_
        refine wp_bnd _ (r_strandedNow (V := skw V l p) (skw_ok h.1) hfu ?_ ?_ ?_) ?_
        · rw [ms_j (by omega), f3.at (by omega)]; exact hRw.1 11 (by omega)
        · intro s hs
          rw [ek _ _ (by omega) (by omega), skw_o (by omega)]; exact d3.2.1 s hs
        · intro s hs
          rw [ms_k (by omega)]; exact (f2.1 s hs).1
        · rintro y s9 ⟨rfl, rfl⟩
          refine wp_bnd _ (r_tells (A := totv (skw V l p)) (B := totv V) (x := strv (skw V l p)) hRA e47) ?_
          rintro y s11 ⟨rfl, v1, v2⟩
          exact wp_some ⟨et.symm, by rw [et, es]; exact v1, (((lo20 σ 0).trans d4).trans (fun k j hk => ek k j (by omega) (by omega))).trans v2⟩
  · refine op_same h (-1) (fun σ hC => ?_) (fun σ hR => ?_)
    · unfold fX6_skips
      refine wp_bnd _ (c_hasStep h.1 hC.1 ha hb) ?_
      rintro x s' ⟨g0, g1, rfl⟩
      exact wp_jn (iEq0 (fun _ => wp_some ⟨rfl, CP.refl σ⟩) (fun _ => by omega))
    · unfold fX7_skips
      refine wp_stf ?_
      refine wp_bnd _ (r_isStep h.1 hR.s20.1 ha hb) ?_
      rintro x s' ⟨g0, g1, rfl⟩
      exact wp_jn (iEq0 (fun _ => wp_some ⟨rfl, rp20 σ 0⟩) (fun _ => by omega))
end SKIPOP
