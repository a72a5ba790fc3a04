/-! ===== settles, balances ===== -/
noncomputable def svi (V : Mem) : Nat → Mem
  | 0 => V
  | k + 1 => sav (svi V k)
section SOPS
variable {V V' σ σ' X : Mem} {c rid : Nat → Int} {t k j l p s P fu : Nat} {a b v r : Int}
theorem sav_at (h : ¬ (k = 334 ∨ k = 333)) (h2 : ¬ (k = 328 ∧ j = 13)) : sav V k j = V k j := savp_at h h2
theorem svi_at (h : ¬ (k = 334 ∨ k = 333)) (h2 : ¬ (k = 328 ∧ j = 13)) : ∀ n, svi V n k j = V k j := by
  intro n
  induction n with
  | zero => rfl
  | succ n ih => show sav (svi V n) k j = V k j; rw [sav_at h h2, ih]
theorem svi_ok (h : OkA t V) : ∀ n : Nat, n ≤ 200 → OkA (t + 1) (svi V n) ∧ svi V n 328 13 = V 328 13 + (n : Int) := by
  intro n
  induction n with
  | zero => intro _; exact ⟨h.up, by show V 328 13 = V 328 13 + 0; omega⟩
  | succ n ih =>
    intro hn
    obtain ⟨h1, h2⟩ := ih (by omega)
    have h13 : svi V (n + 1) 328 13 = V 328 13 + ((n + 1 : Nat) : Int) := by
      show sav (svi V n) 328 13 = _
      rw [show sav (svi V n) 328 13 = svi V n 328 13 + 1 from savp_13, h2]; omega
    have hb := h.2.2.1
    refine ⟨⟨savp_ok h1.1 h1.2.2.1.1 (fun j => ldv_b h1.1 356 j) _ _, ?_, ?_, ?_, ?_⟩, h13⟩
    · rw [svi_at (by omega) (by omega)]; exact h.2.1
    · rw [h13]; exact ⟨by omega, by omega, savp_st h1.1 h1.2.2.1.2.2 h1.2.2.1.1 (fun j => ldv_b h1.1 356 j) _ _⟩
    · rw [svi_at (by omega) (by omega)]; exact h.2.2.2.1
    · rw [svi_at (by omega) (by omega)]; exact h.2.2.2.2
noncomputable def lgp (V : Mem) (i : Nat) : Int := if i = 0 then 0 else gapv (svi V (i - 1))
theorem abv_b {x M : Int} (h : -M ≤ x ∧ x ≤ M) : 0 ≤ abv x ∧ abv x ≤ M := by unfold abv; split <;> omega
theorem gapv_b (ok : OkN V) : 0 ≤ gapv V ∧ gapv V ≤ 1344000000 := by
  have hn := ok.n
  have h1 : ∀ l, l < nn V → 0 ≤ smf (gp1 V (ldv V) l) (ln V l - 1) ∧ smf (gp1 V (ldv V) l) (ln V l - 1) ≤ 112000000 := by
    intro l hl
    have h8 := ok.len hl
    have := smf_le (f := gp1 V (ldv V) l) (M := 16000000) (ln V l - 1) (fun p hp => by
      have h2 := (ok.ok hl).2.2.2.2.2.2.2 p (by omega)
      have h3 := ldv_b ok 356 (8 * l + p)
      exact abv_b (by omega))
    omega
  have h2 : ∀ l : Nat, l ≤ nn V → 0 ≤ gpS V (ldv V) l ∧ gpS V (ldv V) l ≤ 112000000 * (l : Int) := by
    intro l
    induction l with
    | zero => intro _; simp [gpS]
    | succ l ih =>
      intro hl
      have := ih (by omega)
      have := h1 l (by omega)
      simp only [gpS]
      omega
  have := h2 (nn V) (Nat.le_refl _)
  unfold gapv
  omega
theorem op_settles (h : OkA t V) (ht : t ≤ 600) (hfu : 1000 < fu) (ha : R32 a) : Op t V (fX6_settles fu a) (fX7_settles fu a) := by
  have h13 := h.2.2.1
  by_cases hc : 1 ≤ a ∧ a ≤ 50
  · obtain ⟨n, rfl⟩ := Int.eq_ofNat_of_zero_le (show 0 ≤ a by omega)
    have hn : n ≤ 50 := by omega
    obtain ⟨hO, hO13⟩ := svi_ok h n (by omega)
    have htb := totv_b hO.1
    refine ⟨lgp V n, row2 (svi V n) (V 328 13 + (n : Int)) (totv (svi V n)), row2_ok hO, fun σ hC => ?_, fun σ hR => ?_⟩
    · unfold fX6_settles
      refine wp_jn (iLt (fun h => by omega) (fun _ => ?_) ha)
      refine iLe (fun _ => ?_) (fun h => by omega) ha
      refine for2 (f := fX6_settles_L17 fu (n : Int) _) n (fun i x s => x = lgp V i ∧ ClsA (svi V i) s ∧ Hi σ s) ?_ ?_ (i := 0) ⟨rfl, hC, Hi.refl σ⟩
      · rintro m i x s hi ⟨rfl, j1, j2⟩ hrec
        obtain ⟨hOi, hOi13⟩ := svi_ok h i (by omega)
        rw [fX6_settles_L17]
        refine iLe (fun h => by omega) (fun _ => ?_)
        refine wp_bnd _ (c_settleOnce hOi hfu (by omega) j1) ?_
        rintro x s' ⟨rfl, g1, g2⟩
        exact hrec _ _ ⟨by unfold lgp; rw [if_neg (by omega)]; rfl, g1, j2.trans g2⟩
      · rintro m x s ⟨rfl, j1, j2⟩
        rw [fX6_settles_L17]
        refine iLe (fun _ => ?_) (fun h => by omega)
        refine wp_bnd _ (c_findTotal hO hfu j1) ?_
        intro _ s2 ⟨d1, d2, d3, d4, d5, d6⟩
        rw [d4.1.2.2.2.2.2.1, hO13, d1, w32_sm (by omega) (by omega)]
        refine wp_bnd _ (c_putTwo fu hO.1 d4) ?_
        intro _ s3 ⟨q1, q2, q3⟩
        exact wp_some ⟨rfl, q1, (j2.trans d5).trans q2⟩
    · unfold fX7_settles
      refine wp_stf ?_
      rw [w32_id ha]
      refine wp_bnd _ (r_in fu (by omega) (by omega) (by omega)) ?_
      rintro x s' ⟨h0, h1, rfl⟩
      refine iNe0 (fun _ => ?_) (fun h => by omega)
      refine for1 (f := fX7_settles_L21 fu (n : Int) _) n (fun i s => (1 ≤ i → s 328 46 = lgp V i) ∧ RefA (svi V i) s ∧ Lo σ s) ?_ ?_ (i := 0) ⟨fun h => by omega, hR.s20, lo20 σ 0⟩
      · intro m i s hi ⟨j0, j1, j2⟩ hrec
        obtain ⟨hOi, hOi13⟩ := svi_ok h i (by omega)
        rw [fX7_settles_L21]
        refine iLe (fun h => by omega) (fun _ => ?_)
        refine wp_bnd _ (r_settlesOnce hOi hfu (by omega) j1) ?_
        rintro x s' ⟨g0, g1, g2⟩
        exact hrec _ ⟨fun _ => by rw [g0]; unfold lgp; rw [if_neg (by omega)]; rfl, g1, j2.trans g2⟩
      · intro m s ⟨j0, j1, j2⟩
        rw [fX7_settles_L21]
        refine iLe (fun _ => ?_) (fun h => by omega)
        refine wp_bnd _ (q_lays hO hfu j1) ?_
        intro _ s2 ⟨d1, d2, d3, d4⟩
        refine wp_stf ?_
        rw [ms_j (by omega), d2.1.j (by omega), hO13, w32_sm (by omega) (by omega)]
        refine wp_bnd _ (r_tell fu (by rw [emp_19]; omega) (r_emp d2)) ?_
        intro _ s3 ⟨q1, q2, q3⟩
        refine wp_bnd _ (r_totalNow hO.1 hfu (fun s hs => by rw [q3 _ _ (by omega) (by omega), ms_k (by omega)]; exact d2.2.1 s hs) (fun s hs => by rw [q3 _ _ (by omega) (by omega), ms_k (by omega)]; exact (d1.1 s hs).1)) ?_
        rintro x s' ⟨rfl, rfl⟩
        refine wp_bnd _ (r_tell fu (by rw [psh_19, emp_19]; omega) q1) ?_
        intro _ s4 ⟨w1, w2, w3⟩
        refine wp_some ⟨?_, w1, ((j2.trans (lo19 d3 0)).trans q2).trans w2⟩
        rw [w3 _ _ (by omega) (by omega), q3 _ _ (by omega) (by omega), ms_j (by omega), d4.at (by omega)]
        exact j0 (by omega)
  · refine op_same h (-1) (fun σ hC => ?_) (fun σ hR => ?_)
    · unfold fX6_settles
      refine wp_jn (iLt (fun h => wp_some ⟨rfl, CP.refl σ⟩) (fun _ => ?_) ha)
      exact iLe (fun _ => by omega) (fun h => wp_some ⟨rfl, CP.refl σ⟩) ha
    · unfold fX7_settles
      refine wp_stf ?_
      rw [w32_id ha]
      refine wp_bnd _ (r_in fu (by omega) (by omega) (by omega)) ?_
      rintro x s' ⟨h0, h1, rfl⟩
      exact iNe0 (fun _ => by omega) (fun h => wp_some ⟨rfl, rp20 σ 0⟩)
theorem op_balances (h : OkA t V) (ht : t ≤ 600) (hfu : 1000 < fu) (ha : R32 a) (hb : R32 b) : Op t V (fX6_balances fu a b) (fX7_balances fu a b) := by
  have h13 := h.2.2.1
  by_cases hc : 0 ≤ a ∧ 1 ≤ b ∧ b ≤ 200
  · obtain ⟨n, rfl⟩ := Int.eq_ofNat_of_zero_le (show 0 ≤ b by omega)
    have hn : n ≤ 200 := by omega
    obtain ⟨m, hm1, hm2, hm3⟩ := first_of (fun m => (n : Int) ≤ (m : Int) + 1 ∨ gapv (svi V m) ≤ a) (n - 1) (Or.inl (by omega))
    have hgp : ∀ i, i < n → 0 ≤ gapv (svi V i) ∧ gapv (svi V i) ≤ 1344000000 := fun i hi => gapv_b (svi_ok h i (by omega)).1.1
    have hgm := hgp m (by omega)
    obtain ⟨hO, hO13⟩ := svi_ok h (m + 1) (by omega)
    refine ⟨((m + 1 : Nat) : Int), row2 (svi V (m + 1)) (gapv (svi V m)) (V 328 13 + ((m + 1 : Nat) : Int)), row2_ok hO, fun σ hC => ?_, fun σ hR => ?_⟩
    · unfold fX6_balances
      refine wp_jn (iLt0 (fun h => by omega) (fun _ => ?_) ha)
      refine iLt (fun h => by omega) (fun _ => ?_) hb
      refine iLe (fun _ => ?_) (fun h => by omega) hb
      refine wp_bnd _ (c_settleOnce h hfu (by omega) hC) ?_
      rintro x s1 ⟨rfl, g1, g2⟩
      refine for2 (f := fX6_balances_L29 fu a (n : Int) _) (m + 1) (fun i x s => 1 ≤ i ∧ x = gapv (svi V (i - 1)) ∧ ClsA (svi V i) s ∧ Hi σ s) ?_ ?_ (i := 1) ⟨by omega, rfl, g1, g2⟩
      · rintro q i x s hi ⟨j0, rfl, j1, j2⟩ hrec
        obtain ⟨hOi, hOi13⟩ := svi_ok h i (by omega)
        have hgi := hgp (i - 1) (by omega)
        have hno := hm3 (i - 1) (by omega)
        rw [fX6_balances_L29]
        refine iLe (fun h => absurd (Or.inl (by omega)) hno) (fun _ => ?_)
        refine iLe (fun h => absurd (Or.inr h) hno) (fun _ => ?_)
        refine wp_bnd _ (c_settleOnce hOi hfu (by omega) j1) ?_
        rintro x s' ⟨rfl, w1, w2⟩
        exact hrec _ _ ⟨by omega, rfl, w1, j2.trans w2⟩
      · rintro q x s ⟨j0, rfl, j1, j2⟩
        have hend : wp (bnd (fX3_putTwo fu (w32 (gapv (svi V (m + 1 - 1)))) (w32 (s 136 6)) s) (fun _ s8 => some (((m + 1 : Nat) : Int), s8))) (fun r1 σ1 => r1 = ((m + 1 : Nat) : Int) ∧ ClsA (row2 (svi V (m + 1)) (gapv (svi V m)) (V 328 13 + ((m + 1 : Nat) : Int))) σ1 ∧ Hi σ σ1) := by
          rw [j1.1.2.2.2.2.2.1, hO13, Nat.add_sub_cancel, w32_sm (by omega) (by omega), w32_sm (by omega) (by omega)]
          refine wp_bnd _ (c_putTwo fu hO.1 j1) ?_
          intro _ s3 ⟨q1, q2, q3⟩
          exact wp_some ⟨rfl, q1, j2.trans q2⟩
        rw [Nat.add_sub_cancel] at hend
        rw [fX6_balances_L29, Nat.add_sub_cancel]
        refine iLe (fun _ => hend) (fun g => ?_)
        refine iLe (fun _ => hend) (fun g2 => ?_)
        rcases hm2 with e | e <;> omega
    · unfold fX7_balances
      refine wp_stf ?_
      rw [w32_id hb]
      refine wp_bnd _ (r_in fu (by omega) (by omega) (by omega)) ?_
      rintro x s' ⟨h0, h1, rfl⟩
      refine wp_jn (iEq0 (fun h => by omega) (fun _ => ?_))
      refine iGe0 (fun _ => ?_) (fun h => by omega) ha
      refine for1 (f := fX7_balances_L25 fu a (n : Int) _) m (fun i s => RefA (svi V i) s ∧ Lo σ s) ?_ ?_ (i := 0) ⟨hR.s20, lo20 σ 0⟩
      · intro q i s hi ⟨j1, j2⟩ hrec
        obtain ⟨hOi, hOi13⟩ := svi_ok h i (by omega)
        have hgi := hgp i (by omega)
        have hno := hm3 i hi
        rw [fX7_balances_L25]
        refine wp_bnd _ (r_settlesOnce hOi hfu (by omega) j1) ?_
        rintro x s' ⟨g0, g1, g2⟩
        refine iLe (fun h => absurd (Or.inl (by omega)) hno) (fun _ => ?_)
        rw [g0, w32_id ha]
        refine jLt (fun _ => hrec _ ⟨g1, j2.trans g2⟩) (fun h => absurd (Or.inr h) hno)
      · intro q s ⟨j1, j2⟩
        obtain ⟨hOi, hOi13⟩ := svi_ok h m (by omega)
        rw [fX7_balances_L25]
        refine wp_bnd _ (r_settlesOnce hOi hfu (by omega) j1) ?_
        rintro x s' ⟨g0, g1, g2⟩
        have hend : wp (stf s' 328 19 0 (fun s9 => bnd (fX7_tell fu (s9 328 46) s9) (fun _ s10 => bnd (fX7_tell fu (w32 (s10 328 13)) s10) (fun _ s11 => some (((m : Int)) + 1, s11))))) (fun r1 σ1 => r1 = ((m + 1 : Nat) : Int) ∧ RefA (row2 (svi V (m + 1)) (gapv (svi V m)) (V 328 13 + ((m + 1 : Nat) : Int))) σ1 ∧ Lo σ σ1) := by
          refine wp_stf ?_
          rw [ms_j (by omega), g0]
          refine wp_bnd _ (r_tell fu (by rw [emp_19]; omega) (r_emp g1)) ?_
          intro _ s3 ⟨q1, q2, q3⟩
          rw [q3 _ _ (by omega) (by omega), ms_j (by omega), g1.1.j (by omega), show sav (svi V m) 328 13 = V 328 13 + ((m + 1 : Nat) : Int) from hO13, w32_sm (by omega) (by omega)]
          refine wp_bnd _ (r_tell fu (by rw [psh_19, emp_19]; omega) q1) ?_
          intro _ s4 ⟨w1, w2, w3⟩
          exact wp_some ⟨by omega, w1, (((j2.trans g2).set (by omega)).trans q2).trans w2⟩
        refine iLe (fun _ => hend) (fun g => ?_)
        rw [g0, w32_id ha]
        refine jLt (fun g3 => ?_) (fun _ => hend)
        rcases hm2 with e | e <;> omega
  · refine op_same h (-1) (fun σ hC => ?_) (fun σ hR => ?_)
    · unfold fX6_balances
      refine wp_jn (iLt0 (fun h => wp_some ⟨rfl, CP.refl σ⟩) (fun _ => ?_) ha)
      refine iLt (fun h => wp_some ⟨rfl, CP.refl σ⟩) (fun _ => ?_) hb
      exact iLe (fun _ => by omega) (fun h => wp_some ⟨rfl, CP.refl σ⟩) hb
    · unfold fX7_balances
      refine wp_stf ?_
      rw [w32_id hb]
      refine wp_bnd _ (r_in fu (by omega) (by omega) (by omega)) ?_
      rintro x s' ⟨h0, h1, rfl⟩
      refine wp_jn (iEq0 (fun h => wp_some ⟨rfl, rp20 σ 0⟩) (fun _ => ?_))
      exact iGe0 (fun _ => by omega) (fun h => wp_some ⟨rfl, rp20 σ 0⟩) ha
end SOPS
