/-! ===== sign, clears, drops ===== -/
theorem and_b8 (x : Int32) : (x.toInt8.toInt32 &&& 255) = x &&& 255 := by
  apply Int32.toBitVec_inj.mp
  show ((x.toBitVec.signExtend 8).signExtend 32 &&& 255#32) = x.toBitVec &&& 255#32
  apply BitVec.eq_of_getLsbD_eq
  intro i hi
  have h255 : (255#32).getLsbD i = decide (i < 8) := by
    rw [show (255#32) = BitVec.ofNat 32 (2 ^ 8 - 1) from rfl, BitVec.getLsbD_ofNat, Nat.testBit_two_pow_sub_one]
    simp [hi]
  rw [BitVec.getLsbD_and, BitVec.getLsbD_and, h255]
  by_cases h : i < 8
  · rw [BitVec.getLsbD_signExtend, BitVec.getLsbD_signExtend]
    simp [h, hi]
  · simp [h]
theorem and_n8 (v : Int) : and32 (n8 (b8 v)) 255 = and32 v 255 := by
  unfold and32 n8 b8
  have e : vp_nar .byte (Int32.ofInt ((Int32.ofInt v).toInt8.toInt32.toInt)) = (Int32.ofInt v).toInt8.toInt32.toInt8.toInt32 := by
    rw [Int32.ofInt_toInt]; rfl
  have e255 : Int32.ofInt 255 = 255 := by decide +kernel
  rw [e, Int32.ofInt_toInt, e255, and_b8, and_b8]
section DROPS
variable {V V' σ σ' X W : Mem} {c rid : Nat → Int} {t k j l p s P fu : Nat} {a b v r A B x : Int}
def sgV (V : Mem) (n0 : Nat) (a : Int) : Mem := fun k j => if k = 340 ∧ n0 ≤ j ∧ j < n0 + 4 then n8 (b8 (shr32 a (24 - 8 * ((j - n0 : Nat) : Int)))) else if k = 328 ∧ j = 17 then ((n0 + 4 : Nat) : Int) else V k j
theorem c_four {Q : Int → Mem → Prop} {K : Mem → PR} {n0 : Nat} (h0 : n0 + 4 ≤ 400) (hK : ∀ s', s' 1 1 = ((n0 + 4 : Nat) : Int) → (∀ i : Nat, i < 4 → s' 2 (n0 + i) = and32 (shr32 a (24 - 8 * (i : Int))) 255) → (∀ k j, (k = 1 ∧ j = 1) ∨ (k = 2 ∧ n0 ≤ j) ∨ s' k j = σ k j) → wp (K s') Q) :
    ∀ (fuel k : Nat) (s : Mem), k ≤ 4 → 4 - k < fuel → s 1 1 = ((n0 + k : Nat) : Int) → (∀ i : Nat, i < k → s 2 (n0 + i) = and32 (shr32 a (24 - 8 * (i : Int))) 255) → (∀ k j, (k = 1 ∧ j = 1) ∨ (k = 2 ∧ n0 ≤ j) ∨ s k j = σ k j) → wp (fX5_addsFour_L15 fu a K fuel (24 - 8 * (k : Int)) s) Q := by
  intro fuel
  induction fuel with
  | zero => intro k s _ h; omega
  | succ n ih =>
    intro k s hk hf h1 h2 h3
    rw [fX5_addsFour_L15]
    by_cases e : k = 4
    · subst e
      exact iLt0 (fun _ => hK s h1 h2 h3) (fun h => by omega)
    · refine iLt0 (fun h => by omega) (fun _ => ?_)
      refine wI (n0 + k) h1 (by omega) (wp_stf ?_)
      rw [show (24 : Int) - 8 * (k : Int) + (-8) = 24 - 8 * ((k + 1 : Nat) : Int) by omega, ms_k (by omega), h1]
      refine ih (k + 1) _ (by omega) (by omega) (by rw [ms_eq]; omega) (fun i hi => ?_) (fun q j => ?_)
      · rw [ms_k (by omega)]
        by_cases e2 : i = k
        · rw [e2, ms_eq]
        · rw [ms_j (by omega)]; exact h2 i (by omega)
      · by_cases e2 : (q = 1 ∧ j = 1) ∨ (q = 2 ∧ j = n0 + k)
        · omega
        · rw [mset_eq, if_neg (by omega), mset_eq, if_neg (by omega)]; exact h3 q j
theorem r_four {Q : Int → Mem → Prop} {K : Mem → PR} {n0 : Nat} (h0 : n0 + 4 ≤ 400) (hR : RefA V σ) (hK : ∀ s', RefA (sgV V n0 a) s' → s' 328 17 = ((n0 + 4 : Nat) : Int) → Lo σ s' → wp (K s') Q) :
    ∀ (fuel k : Nat) (s : Mem), k ≤ 4 → 4 - k < fuel → s 328 17 = ((n0 + k : Nat) : Int) → (∀ i : Nat, i < k → s 340 (n0 + i) = n8 (b8 (shr32 a (24 - 8 * (i : Int))))) → (∀ q j, (q = 328 ∧ j = 17) ∨ (q = 340 ∧ n0 ≤ j ∧ j < n0 + k) ∨ s q j = σ q j) → wp (fX7_sign_L21 fu a K fuel (3 - (k : Int)) s) Q := by
  intro fuel
  induction fuel with
  | zero => intro k s _ h; omega
  | succ n ih =>
    intro k s hk hf h1 h2 h3
    rw [fX7_sign_L21]
    by_cases e : k = 4
    · subst e
      refine iLt0 (fun _ => hK s ?_ h1 (fun q j hq => by have := h3 q j; omega)) (fun h => by omega)
      obtain ⟨r1, r2, r3, r4, r5, r6⟩ := hR
      refine ⟨⟨fun j hj => ?_, fun q j b1 b2 => ?_⟩, fun s' hs => ?_, ?_, fun i => ?_, ?_, fun i => ?_⟩
      · unfold sgV; rw [if_neg (by omega), if_neg (by omega), ← r1.1 j hj]; have := h3 328 j; omega
      · unfold sgV; rw [if_neg (by omega), if_neg (by omega), ← r1.2 q j b1 b2]; have := h3 q j; omega
      · unfold sgV; rw [if_neg (by omega), if_neg (by omega), ← r2 s' hs]; have := h3 338 s'; omega
      · unfold sgV; rw [if_neg (by omega), if_pos ⟨rfl, rfl⟩]; exact h1
      · unfold sgV
        by_cases g : n0 ≤ i ∧ i < n0 + 4
        · rw [if_pos ⟨rfl, g⟩]
          have := h2 (i - n0) (by omega)
          rw [show n0 + (i - n0) = i by omega] at this
          exact this
        · rw [if_neg (by omega), if_neg (by omega), ← r4 i]; have := h3 340 i; omega
      · unfold sgV; rw [if_neg (by omega), if_neg (by omega), ← r5]; have := h3 328 19; omega
      · unfold sgV; rw [if_neg (by omega), if_neg (by omega), ← r6 i]; have := h3 341 i; omega
    · refine iLt0 (fun h => by omega) (fun _ => ?_)
      refine wp_stf (wI (n0 + k) h1 (by omega) ?_)
      rw [show (3 : Int) - (k : Int) + (-1) = 3 - ((k + 1 : Nat) : Int) by omega, h1, show (8 : Int) * (3 - (k : Int)) = 24 - 8 * (k : Int) by omega]
      refine ih (k + 1) _ (by omega) (by omega) (by rw [ms_k (by omega), ms_eq]; omega) (fun i hi => ?_) (fun q j => ?_)
      · by_cases e2 : i = k
        · rw [e2, ms_eq]
        · rw [ms_j (by omega), ms_k (by omega)]; exact h2 i (by omega)
      · by_cases e2 : (q = 328 ∧ j = 17) ∨ (q = 340 ∧ j = n0 + k)
        · omega
        · rw [mset_eq, if_neg (by omega), mset_eq, if_neg (by omega)]; have := h3 q j; omega
theorem op_sign (h : OkA t V) (hfu : 1000 < fu) (ha : R32 a) : Op t V (fX6_sign fu a) (fX7_sign fu a) := by
  have h17 := h.2.2.2.1
  obtain ⟨n0, hn0⟩ := Int.eq_ofNat_of_zero_le h17.1
  by_cases hc : n0 ≤ 396
  · have ag : AgN V (sgV V n0 a) := ⟨fun j hj => by unfold sgV; rw [if_neg (by omega), if_neg (by omega)], fun k j h1 h2 => by unfold sgV; rw [if_neg (by omega), if_neg (by omega)]⟩
    have e17 : sgV V n0 a 328 17 = ((n0 + 4 : Nat) : Int) := by unfold sgV; rw [if_neg (by omega), if_pos ⟨rfl, rfl⟩]
    have e19 : sgV V n0 a 328 19 = V 328 19 := by unfold sgV; rw [if_neg (by omega), if_neg (by omega)]
    refine ⟨((n0 + 4 : Nat) : Int), sgV V n0 a, ⟨ag.ok h.1, by rw [ag.1 37 (by omega)]; exact h.2.1, ⟨by rw [ag.1 13 (by omega)]; exact h.2.2.1.1, by rw [ag.1 13 (by omega)]; have := h.2.2.1.2.1; omega, ag.st h.2.2.1.2.2⟩, by rw [e17]; omega, by rw [e19]; exact h.2.2.2.2⟩, fun σ hC => ?_, fun σ hR => ?_⟩
    · have hl := hC.2.1.1
      unfold fX6_sign
      refine wp_bnd (fun r σ' => r = 1 ∧ σ' 1 1 = ((n0 + 4 : Nat) : Int) ∧ ClsA (sgV V n0 a) σ' ∧ Hi σ σ') ?_ ?_
      · unfold fX5_addsFour
        rw [hl, hn0]
        refine iLe (fun _ => ?_) (fun h => by omega)
        refine c_four (σ := σ) (n0 := n0) (by omega) (fun s' g1 g2 g3 => wp_rtz (Or.inr rfl) ⟨rfl, g1, ⟨ag.cls (hC.1.gen h.1 (fun k j _ _ q1 q2 => by have := g3 k j; omega)), ⟨by rw [e17]; exact g1, fun i hi => ?_⟩, ⟨by rw [e19, ← hC.2.2.1]; have := g3 323 1; omega, fun i hi => ?_⟩⟩, fun k j hk => by have := g3 k j; omega⟩) fu 0 σ (by omega) (by omega) (by rw [hl, hn0]; omega) (fun i hi => by omega) (fun k j => Or.inr (Or.inr rfl))
        · rw [e17] at hi
          by_cases g : n0 ≤ i
          · have := g2 (i - n0) (by omega)
            rw [show n0 + (i - n0) = i by omega] at this
            rw [this]
            unfold sgV
            rw [if_pos (by omega), and_n8]
          · have e := hC.2.1.2 i (by omega)
            unfold sgV
            rw [if_neg (by omega), if_neg (by omega), ← e]
            have := g3 2 i
            omega
        · rw [e19] at hi
          have e := hC.2.2.2 i hi
          unfold sgV
          rw [if_neg (by omega), if_neg (by omega), ← e]
          have := g3 324 i
          omega
      · rintro r s' ⟨rfl, g1, g2, g3⟩
        refine wp_jn (iEq0 (fun h => by omega) (fun _ => wp_some ⟨g1, g2, g3⟩))
    · have hR' := hR.s20 (v := 0)
      unfold fX7_sign
      refine wp_stf ?_
      rw [hR'.2.2.1, hn0]
      refine iLe (fun _ => ?_) (fun h => by omega)
      have := r_four (fu := fu) (a := a) (n0 := n0) (K := fun s7 => some (s7 328 17, s7)) (Q := fun r2 σ2 => r2 = ((n0 + 4 : Nat) : Int) ∧ RefA (sgV V n0 a) σ2 ∧ Lo σ σ2) (by omega) hR' (fun s' g1 g2 g3 => wp_some ⟨g2, g1, (lo20 σ 0).trans g3⟩) fu 0 (mset σ 328 20 0) (by omega) (by omega) (by rw [hR'.2.2.1, hn0]; omega) (fun i hi => by omega) (fun k j => Or.inr (Or.inr rfl))
      exact this
  · refine op_same h (-1) (fun σ hC => ?_) (fun σ hR => ?_)
    · unfold fX6_sign
      refine wp_bnd (fun r σ' => r = 0 ∧ σ = σ') ?_ ?_
      · unfold fX5_addsFour
        rw [hC.2.1.1, hn0]
        exact iLe (fun h => by omega) (fun _ => wp_rtz (Or.inl rfl) ⟨rfl, rfl⟩)
      · rintro r s' ⟨rfl, rfl⟩
        exact wp_jn (iEq0 (fun h => wp_some ⟨rfl, CP.refl σ⟩) (fun h => by omega))
    · have hR' := hR.s20 (v := 0)
      unfold fX7_sign
      refine wp_stf ?_
      rw [hR'.2.2.1, hn0]
      exact iLe (fun h => by omega) (fun _ => wp_some ⟨rfl, rp20 σ 0⟩)
/-! clears -/
def clV (V : Mem) : Mem := fun k j => if (k = 333 ∨ k = 334) ∧ j < 96 then 0 else if k = 328 ∧ j = 13 then 0 else V k j
theorem clV_at (h : ¬ ((k = 333 ∨ k = 334) ∧ j < 96)) (h2 : ¬ (k = 328 ∧ j = 13)) : clV V k j = V k j := by unfold clV; rw [if_neg h, if_neg h2]
theorem clV_0 (h : k = 333 ∨ k = 334) (hj : j < 96) : clV V k j = 0 := by unfold clV; rw [if_pos ⟨h, hj⟩]
theorem clV_13 : clV V 328 13 = 0 := by unfold clV; rw [if_neg (by omega), if_pos ⟨rfl, rfl⟩]
theorem clV_nn : nn (clV V) = nn V := by unfold nn; rw [clV_at (by omega) (by omega)]
theorem clV_ln (m : Nat) : ln (clV V) m = ln V m := by unfold ln; rw [clV_at (by omega) (by omega)]
theorem clV_ok (h : OkA t V) : OkA (t + 1) (clV V) := by
  obtain ⟨ok, q37, ⟨q13, q13b, st⟩, q17, q19⟩ := h
  have hn := ok.n
  obtain ⟨o1, o2, o3, o4, o5, o6⟩ := id ok
  refine ⟨⟨by rw [clV_at (by omega) (by omega)]; exact o1, by rw [clV_at (by omega) (by omega)]; exact o2, by rw [clV_at (by omega) (by omega)]; exact o3, by rw [clV_at (by omega) (by omega)]; exact o4, fun s hs => by rw [clV_at (by omega) (by omega), clV_at (by omega) (by omega)]; exact o5 s hs, fun m hm => ?_⟩, by rw [clV_at (by omega) (by omega)]; exact q37, ⟨by rw [clV_13]; omega, by rw [clV_13]; omega, fun m hm q hq => ?_⟩, by rw [clV_at (by omega) (by omega)]; exact q17, by rw [clV_at (by omega) (by omega)]; exact q19⟩
  · rw [clV_nn] at hm
    have hx := o6 m hm
    have h8 := ok.len hm
    unfold OkL at hx ⊢
    rw [clV_ln]
    simp (disch := omega) only [clV_at]
    refine ⟨hx.1, hx.2.1, hx.2.2.1, hx.2.2.2.1, hx.2.2.2.2.1, hx.2.2.2.2.2.1, hx.2.2.2.2.2.2.1, fun q hq => ?_⟩
    rw [clV_0 (by omega) (by omega), clV_0 (by omega) (by omega)]
    exact ⟨(hx.2.2.2.2.2.2.2 q hq).1, by omega, by omega⟩
  · rw [clV_nn] at hm
    rw [clV_ln] at hq
    have h8 := ok.len hm
    rw [clV_at (k := 332) (by omega) (by omega), clV_0 (k := 333) (by omega) (by omega)]
    exact ⟨(st m hm q hq).1, by omega⟩
theorem op_clears (h : OkA t V) (hfu : 1000 < fu) : Op t V (fX6_clears fu) (fX7_clears fu) := by
  have hn := h.1.n
  refine ⟨V 328 13, clV V, clV_ok h, fun σ hC => ?_, fun σ hR => ?_⟩
  · unfold fX6_clears
    refine wp_lt ?_
    rw [hC.1.2.2.2.2.2.1]
    refine wp_bnd (fun _ s => ClsA (clV V) s ∧ Hi σ s) ?_ (fun _ s g => wp_some ⟨rfl, g⟩)
    unfold fX2_forgetCrowds
    refine wp_stf ?_
    have hfr2 : ∀ k j, ¬ (k = 136 ∧ j = 6) → mset σ 136 6 0 k j = σ k j := fun k j g => by rw [mset_eq, if_neg g]
    have h6 : mset σ 136 6 0 136 6 = 0 := ms_eq _ _ _ _
    generalize mset σ 136 6 0 = s2 at *
    have hT2 := tab_mv hC.1.1 (σ' := s2) (hfr2 _ _ (by omega)) (hfr2 _ _ (by omega)) (fun j => hfr2 _ _ (by omega)) (fun j => hfr2 _ _ (by omega))
    refine for1 (f := fX2_forgetCrowds_L7 fu _) (nn V) (fun i s => (∀ l, l < i → ∀ p, p < 8 → s (PL σ l + 3) p = 0 ∧ s (PL σ l + 4) p = 0) ∧ FrE s2 s) ?_ ?_ (i := 0) ⟨fun l hl => by omega, FrE.refl _⟩
    · intro n i s hi ⟨j1, j2⟩ hrec
      have hP := hC.1.isL h.1 hi
      have e1 : s 136 1 = V 328 9 := by rw [j2.at (by omega), hfr2 _ _ (by omega)]; exact hC.1.2.1
      rw [fX2_forgetCrowds_L7, e1]
      refine iLe (fun h => by omega) (fun _ => ?_)
      refine for1 (f := fX2_forgetCrowds_L17 fu (i : Int) _) 8 (fun p s' => (∀ q, q < p → s' (PL σ i + 3) q = 0 ∧ s' (PL σ i + 4) q = 0) ∧ ∀ k j, ((k = PL σ i + 3 ∨ k = PL σ i + 4)) ∨ s' k j = s k j) ?_ ?_ (i := 0) ⟨fun q hq => by omega, fun k j => Or.inr rfl⟩
      · intro n p s' hp ⟨g1, g2⟩ hrec2
        have hTs := (j2.tab hT2.1)
        have hT' := tab_mv hTs.1 (σ' := s') (by have := g2 136 0; omega) (by have := g2 1 2; omega) (fun j => by have := g2 3 j; omega) (fun j => by have := g2 137 j; omega)
        have hPL : PL s' i = PL σ i := by rw [hT'.2.1, hTs.2.1, hT2.2.1]
        rw [fX2_forgetCrowds_L17]
        refine iLe (fun h => by omega) (fun _ => ?_)
        refine wp_rfd (rR i rfl (by omega) ?_)
        rw [show pl (s' (pl (s' 136 0)) i) = PL s' i from rfl, hPL]
        refine wI p rfl hp ?_
        refine wp_rfd (rR i rfl (by omega) ?_)
        have hT0 := hT'.1.1
        rw [ms_k (a := 136) (by omega), ms_k (a := pl (s' 136 0)) (by omega), show pl (s' (pl (s' 136 0)) i) = PL s' i from rfl, hPL]
        refine wI p rfl hp (hrec2 _ ⟨fun q hq => ?_, fun k j => ?_⟩)
        · by_cases e : q = p
          · rw [e, ms_k (by omega), ms_eq, ms_eq]; exact ⟨rfl, rfl⟩
          · rw [ms_j e, ms_j e, ms_j e, ms_j e]; exact g1 q (by omega)
        · by_cases e : k = PL σ i + 3 ∨ k = PL σ i + 4
          · exact Or.inl e
          · rw [ms_k (by omega), ms_k (by omega)]; exact g2 k j
      · intro n s' ⟨g1, g2⟩
        rw [fX2_forgetCrowds_L17]
        refine iLe (fun _ => ?_) (fun h => by omega)
        refine hrec s' ⟨fun l hl p hp => ?_, fun k j => ?_⟩
        · by_cases e : l = i
          · rw [e]; exact g1 p hp
          · have hap := hC.1.apart h.1 (show l < nn V by omega) hi e
            have d := j1 l (by omega) p hp
            have b1 := g2 (PL σ l + 3) p
            have b2 := g2 (PL σ l + 4) p
            refine ⟨by omega, by omega⟩
        · rcases g2 k j with e | e
          · omega
          · rw [e]; exact j2 k j
    · intro n s ⟨j1, j2⟩
      have e1 : s 136 1 = V 328 9 := by rw [j2.at (by omega), hfr2 _ _ (by omega)]; exact hC.1.2.1
      rw [fX2_forgetCrowds_L7, e1]
      refine iLe (fun _ => ?_) (fun h => by omega)
      have hfr : ∀ k j, ¬ (k = 136 ∧ j = 6) → ¬ ((4 ≤ k ∧ k < 136 ∧ ((k - 4) % 11 = 3 ∨ (k - 4) % 11 = 4)) ∨ (138 ≤ k ∧ k < 270 ∧ ((k - 138) % 11 = 3 ∨ (k - 138) % 11 = 4))) → s k j = σ k j := fun k j g1 g2 => by rw [j2.at g2, hfr2 _ _ g1]
      have hTs := tab_mv hC.1.1 (σ' := s) (hfr _ _ (by omega) (by omega)) (hfr _ _ (by omega) (by omega)) (fun j => hfr _ _ (by omega) (by omega)) (fun j => hfr _ _ (by omega) (by omega))
      have hcls : Cls (clV V) s := by
        obtain ⟨h1, h2, h3, h4, h5, h6', h7, h8⟩ := hC.1
        refine ⟨hTs.1, by rw [clV_at (by omega) (by omega), hfr _ _ (by omega) (by omega)]; exact h2, by rw [clV_at (by omega) (by omega), hfr _ _ (by omega) (by omega)]; exact h3, by rw [clV_at (by omega) (by omega), hfr _ _ (by omega) (by omega)]; exact h4, by rw [clV_at (by omega) (by omega), hfr _ _ (by omega) (by omega)]; exact h5, by rw [clV_13, j2.at (by omega)]; exact h6, fun q hq => by rw [clV_at (by omega) (by omega), clV_at (by omega) (by omega), hfr _ _ (by omega) (by omega), hfr _ _ (by omega) (by omega)]; exact h7 q hq, fun m hm => ?_⟩
        rw [clV_nn] at hm
        have hP := h1.2.1 m (by omega)
        have hm8 := h.1.len hm
        obtain ⟨x1, x2, x3, x4, x5, x6, x7⟩ := h8 m hm
        rw [hTs.2.1]
        refine ⟨?_, ?_, ?_, ?_, ?_, fun q hq => ?_, fun q hq => ?_⟩
        · rw [clV_at (by omega) (by omega), hfr _ _ (by omega) (by omega)]; exact x1
        · rw [clV_at (by omega) (by omega), hfr _ _ (by omega) (by omega)]; exact x2
        · rw [clV_at (by omega) (by omega), hfr _ _ (by omega) (by omega)]; exact x3
        · rw [clV_at (by omega) (by omega), hfr _ _ (by omega) (by omega)]; exact x4
        · rw [clV_at (by omega) (by omega), hfr _ _ (by omega) (by omega)]; exact x5
        · rw [clV_ln] at hq
          rw [clV_at (by omega) (by omega), hfr _ _ (by omega) (by omega)]; exact x6 q hq
        · rw [clV_ln] at hq
          have d := j1 m hm q (by omega)
          rw [clV_at (by omega) (by omega), hfr _ _ (by omega) (by omega), clV_0 (by omega) (by omega), clV_0 (by omega) (by omega)]
          exact ⟨(x7 q hq).1, d⟩
      exact wp_some ⟨hC.of hcls (fun k j hk => hfr _ _ (by omega) (by omega)) (clV_at (by omega) (by omega)) (clV_at (by omega) (by omega)) (fun i => clV_at (by omega) (by omega)) (fun i => clV_at (by omega) (by omega)), fun k j hk => hfr _ _ (by omega) (by omega)⟩
  · unfold fX7_clears
    refine wp_stf (wp_lt ?_)
    rw [hR.s20.1.j (by omega)]
    refine wp_stf ?_
    refine for1 (f := fX7_clears_L17 fu (V 328 13) _) 96 (fun i s => (∀ q, q < i → s 333 q = 0 ∧ s 334 q = 0) ∧ ∀ k j, ((k = 333 ∨ k = 334) ∧ j < i) ∨ s k j = mset (mset σ 328 20 0) 328 13 0 k j) ?_ ?_ (i := 0) ⟨fun q hq => by omega, fun k j => Or.inr rfl⟩
    · intro n i s hi ⟨j1, j2⟩ hrec
      rw [fX7_clears_L17]
      refine iLe (fun h => by omega) (fun _ => ?_)
      refine wI i rfl hi (wI i rfl hi (hrec _ ⟨fun q hq => ?_, fun k j => ?_⟩))
      · by_cases e : q = i
        · rw [e, ms_k (by omega), ms_eq, ms_eq]; exact ⟨rfl, rfl⟩
        · rw [ms_j e, ms_j e, ms_j e, ms_j e]; exact j1 q (by omega)
      · by_cases e : (k = 333 ∨ k = 334) ∧ j = i
        · left; omega
        · rw [mset_eq, if_neg (by omega), mset_eq, if_neg (by omega)]
          have := j2 k j
          omega
    · intro n s ⟨j1, j2⟩
      rw [fX7_clears_L17]
      refine iLe (fun _ => ?_) (fun h => by omega)
      have hfr : ∀ k j, ¬ ((k = 333 ∨ k = 334) ∧ j < 96) → ¬ (k = 328 ∧ (j = 13 ∨ j = 20)) → s k j = σ k j := fun k j g1 g2 => by
        rw [(j2 k j).resolve_left g1, mset_eq, if_neg (by omega), mset_eq, if_neg (by omega)]
      have h13 : s 328 13 = 0 := by rw [(j2 328 13).resolve_left (by omega), ms_eq]
      obtain ⟨r1, r2, r3, r4, r5, r6⟩ := hR
      refine wp_some ⟨rfl, ⟨⟨fun j hj => ?_, fun k j b1 b2 => ?_⟩, fun q hq => ?_, ?_, fun i => ?_, ?_, fun i => ?_⟩, fun k j hk => hfr _ _ (by omega) (by omega)⟩
      · by_cases e : j = 13
        · rw [e, clV_13]; exact h13
        · rw [clV_at (by omega) (by omega), hfr _ _ (by omega) (by omega)]; exact r1.1 j hj
      · by_cases e : (k = 333 ∨ k = 334) ∧ j < 96
        · rw [clV_0 e.1 e.2]
          have := j1 j e.2
          rcases e.1 with rfl | rfl
          · exact this.1
          · exact this.2
        · rw [clV_at e (by omega), hfr _ _ e (by omega)]; exact r1.2 k j b1 b2
      · rw [clV_at (by omega) (by omega), hfr _ _ (by omega) (by omega)]; exact r2 q hq
      · rw [clV_at (by omega) (by omega), hfr _ _ (by omega) (by omega)]; exact r3
      · rw [clV_at (by omega) (by omega), hfr _ _ (by omega) (by omega)]; exact r4 i
      · rw [clV_at (by omega) (by omega), hfr _ _ (by omega) (by omega)]; exact r5
      · rw [clV_at (by omega) (by omega), hfr _ _ (by omega) (by omega)]; exact r6 i
end DROPS
