/-! ===== the law's loop comes to its end ===== -/
section LAW
variable {V σ σ' : Mem} {L t n : Nat} {xs : Nat → Int32} {i i2 i3 : Int} {p q r : Nat} {Q : Int → Mem → Prop} {j1 : Mem → PR}
theorem x32 (x : Int32) : R32 x.toInt := by
  have h1 := Int32.le_toInt x
  have h2 := Int32.toInt_lt x
  omega
theorem rdX_at (p : Nat) (hi : i = (p : Int)) (hp : p < L) (hL : L ≤ 2048) (c : Int → PR) : rdX L xs i c = c (xs p).toInt := by
  have e : w32 i = (p : Int) := by rw [hi]; exact w32_sm (by omega) (by omega)
  unfold rdX
  rw [e, if_pos (by omega), Int.toNat_natCast]
theorem go0 {E : Int → Int} {f6 f7 : Mem → PR} (hop : ∀ V, OkA t V → Op t V f6 f7) (hI : Inv t σ) (hj : ∀ s, Inv (t + 1) s → wp (j1 s) Q) : wp (bnd (f6 σ) (fun x s2 => bnd (f7 s2) (fun y s3 => if E x = E y then j1 s3 else none))) Q :=
  Op.go (g := fun x _ y s => if E x = E y then j1 s else none) hop hI (fun r _ s h => by show wp (if E r = E r then j1 s else none) Q; rw [if_pos rfl]; exact hj s h)
theorem go1 {E : Int → Int} {f6 f7 : Int → Mem → PR} (hop : ∀ V a, OkA t V → R32 a → Op t V (f6 a) (f7 a)) (hI : Inv t σ) (hi : i = (p : Int)) (hp : p < L) (hL : L ≤ 2048) (hj : ∀ s, Inv (t + 1) s → wp (j1 s) Q) : wp (rdX L xs i (fun x2 => bnd (f6 x2 σ) (fun x s2 => rdX L xs i (fun x4 => bnd (f7 x4 s2) (fun y s3 => if E x = E y then j1 s3 else none))))) Q := by
  simp only [rdX_at (xs := xs) p hi hp hL]
  exact go0 (E := E) (f6 := f6 (xs p).toInt) (f7 := f7 (xs p).toInt) (fun V h => hop V _ h (x32 _)) hI hj
theorem go2 {E : Int → Int} {f6 f7 : Int → Int → Mem → PR} (hop : ∀ V a b, OkA t V → R32 a → R32 b → Op t V (f6 a b) (f7 a b)) (hI : Inv t σ) (hi : i = (p : Int)) (hi2 : i2 = (q : Int)) (hp : p < L) (hq : q < L) (hL : L ≤ 2048) (hj : ∀ s, Inv (t + 1) s → wp (j1 s) Q) : wp (rdX L xs i (fun x2 => rdX L xs i2 (fun x3 => bnd (f6 x2 x3 σ) (fun x s2 => rdX L xs i (fun x4 => rdX L xs i2 (fun x5 => bnd (f7 x4 x5 s2) (fun y s3 => if E x = E y then j1 s3 else none))))))) Q := by
  simp only [rdX_at (xs := xs) p hi hp hL, rdX_at (xs := xs) q hi2 hq hL]
  exact go0 (E := E) (f6 := f6 (xs p).toInt (xs q).toInt) (f7 := f7 (xs p).toInt (xs q).toInt) (fun V h => hop V _ _ h (x32 _) (x32 _)) hI hj
theorem go3 {E : Int → Int} {f6 f7 : Int → Int → Int → Mem → PR} (hop : ∀ V a b d, OkA t V → R32 a → R32 b → R32 d → Op t V (f6 a b d) (f7 a b d)) (hI : Inv t σ) (hi : i = (p : Int)) (hi2 : i2 = (q : Int)) (hi3 : i3 = (r : Int)) (hp : p < L) (hq : q < L) (hr : r < L) (hL : L ≤ 2048) (hj : ∀ s, Inv (t + 1) s → wp (j1 s) Q) : wp (rdX L xs i (fun x2 => rdX L xs i2 (fun x3 => rdX L xs i3 (fun x6 => bnd (f6 x2 x3 x6 σ) (fun x s2 => rdX L xs i (fun x4 => rdX L xs i2 (fun x5 => rdX L xs i3 (fun x7 => bnd (f7 x4 x5 x7 s2) (fun y s3 => if E x = E y then j1 s3 else none))))))))) Q := by
  simp only [rdX_at (xs := xs) p hi hp hL, rdX_at (xs := xs) q hi2 hq hL, rdX_at (xs := xs) r hi3 hr hL]
  exact go0 (E := E) (f6 := f6 (xs p).toInt (xs q).toInt (xs r).toInt) (f7 := f7 (xs p).toInt (xs q).toInt (xs r).toInt) (fun V h => hop V _ _ _ h (x32 _) (x32 _) (x32 _)) hI hj
theorem goB {f6 f7 : Int → Int → Mem → PR} (hop : ∀ V a b, OkA t V → R32 a → (b = 0 ∨ b = 1) → Op t V (f6 a b) (f7 a b)) (hI : Inv t σ) (hi : i = (p : Int)) (hi2 : i2 = (q : Int)) (hp : p < L) (hq : q < L) (hL : L ≤ 2048) (hj : ∀ s, Inv (t + 1) s → wp (j1 s) Q) : wp (rdX L xs i (fun x2 => rdX L xs i2 (fun x3 => jn (fun x34 s18 => bnd (f6 x2 x34 s18) (fun x s2 => rdX L xs i (fun x4 => rdX L xs i2 (fun x5 => jn (fun x38 s20 => bnd (f7 x4 x38 s20) (fun y s3 => if w32 x = w32 y then j1 s3 else none)) (fun (j3 : Int → Mem → PR) => if w32 x5 = 0 then j3 0 s2 else j3 1 s2))))) (fun (j2 : Int → Mem → PR) => if w32 x3 = 0 then j2 0 σ else j2 1 σ)))) Q := by
  simp only [rdX_at (xs := xs) p hi hp hL, rdX_at (xs := xs) q hi2 hq hL, jn]
  by_cases hb : w32 (xs q).toInt = 0
  · simp only [if_pos hb]
    exact go0 (E := w32) (f6 := f6 (xs p).toInt 0) (f7 := f7 (xs p).toInt 0) (fun V h => hop V _ _ h (x32 _) (Or.inl rfl)) hI hj
  · simp only [if_neg hb]
    exact go0 (E := w32) (f6 := f6 (xs p).toInt 1) (f7 := f7 (xs p).toInt 1) (fun V h => hop V _ _ h (x32 _) (Or.inr rfl)) hI hj
theorem RefA.s361 {v : Int} {j : Nat} (h : RefA V σ) : RefA V (mset σ 361 j v) := by
  obtain ⟨h1, h2, h3, h4, h5, h6⟩ := h
  exact ⟨⟨fun j hj => by rw [ms_k (by omega)]; exact h1.1 j hj, fun k j a b => by rw [ms_k (by omega)]; exact h1.2 k j a b⟩, fun s hs => by rw [ms_k (by omega)]; exact h2 s hs, by rw [ms_k (by omega)]; exact h3, fun i => by rw [ms_k (by omega)]; exact h4 i, by rw [ms_k (by omega)]; exact h5, fun i => by rw [ms_k (by omega)]; exact h6 i⟩
theorem row_go {fu : Nat} (hI : Inv t σ) (hi : i = (p : Int)) (hp : p < L) (hL : L ≤ 2048) (hj : ∀ s, Inv (t + 1) s → wp (j1 s) Q) : wp (rdX L xs i (fun x244 => bnd (fL_row fu x244 σ) (fun x245 s114 => rdX L xs i (fun x246 => bnd (fX7_row fu x246 s114) (fun x247 s115 => bnd (fX7_thrown fu s115) (fun x248 s116 => if w32 x248 = w32 x245 then jn (fun s117 => j1 s117) (fun (j6 : Mem → PR) => if w32 x245 ≠ 0 then j6 s116 else rdI s116 361 1 0 (fun x249 => if w64 x249 = w64 x247 then j6 s116 else none)) else none)))))) Q := by
  obtain ⟨V, h1, h2, h3⟩ := hI
  have h19 := h1.2.2.2.2
  have ha := x32 (xs p)
  simp only [rdX_at (xs := xs) p hi hp hL]
  generalize (xs p).toInt = a at *
  by_cases hc : 0 ≤ a ∧ a < V 328 19
  · refine wp_bnd (fun r s => r = 0 ∧ s = mset σ 361 0 (V 341 a.toNat)) ?_ ?_
    · unfold fL_row
      rw [h2.2.2.1, w32_id ha, w32_sm (x := V 328 19) (by omega) (by omega), if_pos hc]
      refine wp_bnd (fun r s => r = V 341 a.toNat ∧ σ = s) ?_ ?_
      · unfold fX6_row
        rw [h2.2.2.1]
        refine wp_jn (iLt0 (fun h => by omega) (fun _ => ?_) ha)
        exact iLt (fun _ => rI a.toNat (by omega) (by omega) (wp_some ⟨h2.2.2.2 _ (by omega), rfl⟩)) (fun h => by omega) ha
      · rintro r s ⟨rfl, rfl⟩
        exact wI 0 rfl (by omega) (wp_some ⟨rfl, rfl⟩)
    · rintro r s2 ⟨rfl, rfl⟩
      refine wp_bnd (fun r s => r = V 341 a.toNat ∧ s = mset (mset σ 361 0 (V 341 a.toNat)) 328 20 0) ?_ ?_
      · unfold fX7_row
        refine wp_stf ?_
        rw [ms_j (show (19 : Nat) ≠ 20 by omega), ms_k (show (328 : Nat) ≠ 361 by omega), h3.2.2.2.2.1, w32_id ha, w32_sm (x := V 328 19 - 1) (by omega) (by omega)]
        refine wp_bnd _ (r_in fu (by omega) (by omega) (by omega)) ?_
        rintro x s' ⟨g0, g1, rfl⟩
        refine wp_jn (iEq0 (fun q => by omega) (fun _ => rI a.toNat (by omega) (by omega) (wp_some ⟨?_, rfl⟩)))
        rw [ms_k (by omega), ms_k (by omega)]; exact h3.2.2.2.2.2 _
      · rintro r s3 ⟨rfl, rfl⟩
        unfold fX7_thrown
        refine wp_bs ?_
        rw [ms_eq]
        refine iEq (fun _ => ?_) (fun g => absurd rfl g)
        refine wp_jn (iNe0 (fun g => absurd rfl g) (fun _ => ?_))
        refine rI 0 rfl (by omega) ?_
        rw [ms_k (show (361 : Nat) ≠ 328 by omega), ms_eq, if_pos rfl]
        exact hj _ ⟨V, h1.up, h2.lo h1.1 (((Lo.refl σ).set (by omega)).set (by omega)), h3.s361.s20⟩
  · refine wp_bnd (fun r s => r = 1 ∧ s = σ) ?_ ?_
    · unfold fL_row
      rw [h2.2.2.1, w32_id ha, w32_sm (x := V 328 19) (by omega) (by omega), if_neg hc]
      exact wp_some ⟨rfl, rfl⟩
    · rintro r s2 ⟨rfl, rfl⟩
      refine wp_bnd (fun r s => s = mset (mset s2 328 20 0) 328 20 1) ?_ ?_
      · unfold fX7_row
        refine wp_stf ?_
        rw [ms_j (show (19 : Nat) ≠ 20 by omega), h3.2.2.2.2.1, w32_id ha, w32_sm (x := V 328 19 - 1) (by omega) (by omega)]
        refine wp_bnd _ (r_in fu (by omega) (by omega) (by omega)) ?_
        rintro x s' ⟨g0, g1, rfl⟩
        refine wp_jn (iEq0 (fun q => ?_) (fun _ => by omega))
        unfold fX7_lost
        refine wp_bnd (fun r s => s = mset (mset s2 328 20 0) 328 20 1) (wp_stf (wp_some rfl)) ?_
        rintro r s ⟨rfl⟩
        exact wp_some rfl
      · rintro r s3 rfl
        unfold fX7_thrown
        refine wp_bs ?_
        rw [ms_eq]
        refine iEq (fun _ => ?_) (fun g => absurd rfl g)
        refine wp_jn (iNe0 (fun _ => ?_) (fun g => by omega))
        exact hj _ ⟨V, h1.up, h2.lo h1.1 (((Lo.refl _).set (by omega)).set (by omega)), h3.s20.s20⟩
theorem Inv.up (h : Inv t σ) : Inv (t + 1) σ := by
  obtain ⟨V, h1, h2, h3⟩ := h
  exact ⟨V, h1.up, h2, h3⟩
set_option maxHeartbeats 4000000 in
set_option maxRecDepth 100000 in
theorem law_turns (hsk : ∀ t V a b, OkA t V → R32 a → R32 b → Op t V (fX6_skips FU a b) (fX7_skips FU a b)) (hL : L ≤ 2048) : ∀ (fuel t : Nat) (σ : Mem), t ≤ 512 → fuel + t = 520 → Inv t σ → wp (fL_law_L FU L xs (fun s => some (1, s)) fuel ((4 * t : Nat) : Int) σ) (fun _ _ => True) := by
  intro fuel
  induction fuel with
  | zero => intro t σ h1 h2; omega
  | succ n ih =>
    intro t σ ht hft hI
    have hFU : 1000 < FU := by decide
    rw [fL_law_L]
    refine iLt (fun _ => wp_some trivial) (fun hlt => ?_)
    have hb : 4 * t + 4 ≤ L := by omega
    rw [rdX_at (4 * t) rfl (by omega) hL]
    generalize w32 (and32 (xs (4 * t)).toInt 63) = y
    refine wp_jm (fun s => Inv (t + 1) s) ?_ ?_
    · intro s hs
      have hn := ih (t + 1) s (by omega) (by omega) hs
      rw [show ((4 * (t + 1) : Nat) : Int) = ((4 * t : Nat) : Int) + 4 by omega] at hn
      exact hn
    · intro j1 hj
      have e1 : ((4 * t : Nat) : Int) + 1 = ((4 * t + 1 : Nat) : Int) := by omega
      have e2 : ((4 * t : Nat) : Int) + 2 = ((4 * t + 2 : Nat) : Int) := by omega
      have e3 : ((4 * t : Nat) : Int) + 3 = ((4 * t + 3 : Nat) : Int) := by omega
      refine wp_ite (fun _ => hj σ hI.up) (fun g => ?_)
      have hy : 0 ≤ y ∧ y ≤ 52 := by omega
      clear g
      refine wp_ite (fun _ => go1 (E := w32) (f6 := fX6_sign FU) (f7 := fX7_sign FU) (fun V a h ha => op_sign h hFU ha) hI e1 (by omega) hL hj) (fun g => ?_)
      replace hy : 1 ≤ y ∧ y ≤ 52 := by omega
      clear g
      refine wp_ite (fun _ => go1 (E := w32) (f6 := fX6_end FU) (f7 := fX7_end FU) (fun V a h ha => op_end h ha) hI e1 (by omega) hL hj) (fun g => ?_)
      replace hy : 2 ≤ y ∧ y ≤ 52 := by omega
      clear g
      refine wp_ite (fun _ => net_go (g := fun x _ y s => if w32 x = w32 y then j1 s else none) hFU hI (fun r _ s h => by show wp (if w32 r = w32 r then j1 s else none) _; rw [if_pos rfl]; exact hj s h)) (fun g => ?_)
      replace hy : 3 ≤ y ∧ y ≤ 52 := by omega
      clear g
      refine wp_ite (fun _ => adds_go (g := fun x _ y s => if w32 x = w32 y then j1 s else none) hFU hI (fun r _ s h => by show wp (if w32 r = w32 r then j1 s else none) _; rw [if_pos rfl]; exact hj s h)) (fun g => ?_)
      replace hy : 4 ≤ y ∧ y ≤ 52 := by omega
      clear g
      refine wp_ite (fun _ => go1 (E := w32) (f6 := fX6_drops FU) (f7 := fX7_drops FU) (fun V a h ha => op_drops h hFU ha) hI e1 (by omega) hL hj) (fun g => ?_)
      replace hy : 5 ≤ y ∧ y ≤ 52 := by omega
      clear g
      refine wp_ite (fun _ => go1 (E := w32) (f6 := fX6_waiting FU) (f7 := fX7_waiting FU) (fun V a h ha => op_waiting h ha) hI e1 (by omega) hL hj) (fun g => ?_)
      replace hy : 6 ≤ y ∧ y ≤ 52 := by omega
      clear g
      refine wp_ite (fun _ => go1 (E := w32) (f6 := fX6_goal FU) (f7 := fX7_goal FU) (fun V a h ha => op_goal h ha) hI e1 (by omega) hL hj) (fun g => ?_)
      replace hy : 7 ≤ y ∧ y ≤ 52 := by omega
      clear g
      refine wp_ite (fun _ => go2 (E := w32) (f6 := fX6_riders FU) (f7 := fX7_riders FU) (fun V a b h ha hb => op_riders h ha hb) hI e1 e2 (by omega) (by omega) hL hj) (fun g => ?_)
      replace hy : 8 ≤ y ∧ y ≤ 52 := by omega
      clear g
      refine wp_ite (fun _ => goB (f6 := fX6_out FU) (f7 := fX7_out FU) (fun V a b h ha hb => op_out h hFU ha hb) hI e1 e2 (by omega) (by omega) hL hj) (fun g => ?_)
      replace hy : 9 ≤ y ∧ y ≤ 52 := by omega
      clear g
      refine wp_ite (fun _ => goB (f6 := fX6_closes FU) (f7 := fX7_closes FU) (fun V a b h ha hb => op_closes h hFU ha hb) hI e1 e2 (by omega) (by omega) hL hj) (fun g => ?_)
      replace hy : 10 ≤ y ∧ y ≤ 52 := by omega
      clear g
      refine wp_ite (fun _ => go2 (E := w32) (f6 := fX6_often FU) (f7 := fX7_often FU) (fun V a b h ha hb => op_often h ha hb) hI e1 e2 (by omega) (by omega) hL hj) (fun g => ?_)
      replace hy : 11 ≤ y ∧ y ≤ 52 := by omega
      clear g
      refine wp_ite (fun _ => go2 (E := w32) (f6 := fX6_line FU) (f7 := fX7_line FU) (fun V a b h ha hb => op_line h ha hb) hI e1 e2 (by omega) (by omega) hL hj) (fun g => ?_)
      replace hy : 12 ≤ y ∧ y ≤ 52 := by omega
      clear g
      refine wp_ite (fun _ => go2 (E := w32) (f6 := fX6_stop FU) (f7 := fX7_stop FU) (fun V a b h ha hb => op_stop h ha hb) hI e1 e2 (by omega) (by omega) hL hj) (fun g => ?_)
      replace hy : 13 ≤ y ∧ y ≤ 52 := by omega
      clear g
      refine wp_ite (fun _ => go1 (E := w32) (f6 := fX6_cost FU) (f7 := fX7_cost FU) (fun V a h ha => op_cost h hFU ha) hI e1 (by omega) hL hj) (fun g => ?_)
      replace hy : 14 ≤ y ∧ y ≤ 52 := by omega
      clear g
      refine wp_ite (fun _ => go0 (E := w32) (f6 := fX6_rounds FU) (f7 := fX7_rounds FU) (fun V h => op_rounds h hFU) hI hj) (fun g => ?_)
      replace hy : 15 ≤ y ∧ y ≤ 52 := by omega
      clear g
      refine wp_ite (fun _ => go1 (E := w32) (f6 := fX6_chosen FU) (f7 := fX7_chosen FU) (fun V a h ha => op_chosen h hFU ha) hI e1 (by omega) hL hj) (fun g => ?_)
      replace hy : 16 ≤ y ∧ y ≤ 52 := by omega
      clear g
      refine wp_ite (fun _ => go2 (E := w32) (f6 := fX6_boarding FU) (f7 := fX7_boarding FU) (fun V a b h ha hb => op_boarding h hFU ha hb) hI e1 e2 (by omega) (by omega) hL hj) (fun g => ?_)
      replace hy : 17 ≤ y ∧ y ≤ 52 := by omega
      clear g
      refine wp_ite (fun _ => go2 (E := w32) (f6 := fX6_aboard FU) (f7 := fX7_aboard FU) (fun V a b h ha hb => op_aboard h hFU ha hb) hI e1 e2 (by omega) (by omega) hL hj) (fun g => ?_)
      replace hy : 18 ≤ y ∧ y ≤ 52 := by omega
      clear g
      refine wp_ite (fun _ => go0 (E := w32) (f6 := fX6_worst FU) (f7 := fX7_worst FU) (fun V h => op_worst h hFU) hI hj) (fun g => ?_)
      replace hy : 19 ≤ y ∧ y ≤ 52 := by omega
      clear g
      refine wp_ite (fun _ => go1 (E := w32) (f6 := fX6_wait FU) (f7 := fX7_wait FU) (fun V a h ha => op_wait h hFU ha) hI e1 (by omega) hL hj) (fun g => ?_)
      replace hy : 20 ≤ y ∧ y ≤ 52 := by omega
      clear g
      refine wp_ite (fun _ => go1 (E := w32) (f6 := fX6_boards FU) (f7 := fX7_boards FU) (fun V a h ha => op_boards h hFU ha) hI e1 (by omega) hL hj) (fun g => ?_)
      replace hy : 21 ≤ y ∧ y ≤ 52 := by omega
      clear g
      refine wp_ite (fun _ => go2 (E := w32) (f6 := fX6_slack FU) (f7 := fX7_slack FU) (fun V a b h ha hb => op_slack h hFU ha hb) hI e1 e2 (by omega) (by omega) hL hj) (fun g => ?_)
      replace hy : 22 ≤ y ∧ y ≤ 52 := by omega
      clear g
      refine wp_ite (fun _ => go1 (E := w32) (f6 := fX6_reach FU) (f7 := fX7_reach FU) (fun V a h ha => op_reach h hFU ha) hI e1 (by omega) hL hj) (fun g => ?_)
      replace hy : 23 ≤ y ∧ y ≤ 52 := by omega
      clear g
      refine wp_ite (fun _ => go2 (E := w32) (f6 := fX6_between FU) (f7 := fX7_between FU) (fun V a b h ha hb => op_between h hFU ha hb) hI e1 e2 (by omega) (by omega) hL hj) (fun g => ?_)
      replace hy : 24 ≤ y ∧ y ≤ 52 := by omega
      clear g
      refine wp_ite (fun _ => go2 (E := w32) (f6 := fX6_load FU) (f7 := fX7_load FU) (fun V a b h ha hb => op_load h hFU ha hb) hI e1 e2 (by omega) (by omega) hL hj) (fun g => ?_)
      replace hy : 25 ≤ y ∧ y ≤ 52 := by omega
      clear g
      refine wp_ite (fun _ => go1 (E := w32) (f6 := fX6_passes FU) (f7 := fX7_passes FU) (fun V a h ha => op_passes h hFU ha) hI e1 (by omega) hL hj) (fun g => ?_)
      replace hy : 26 ≤ y ∧ y ≤ 52 := by omega
      clear g
      refine wp_ite (fun _ => go1 (E := w32) (f6 := fX6_ridden FU) (f7 := fX7_ridden FU) (fun V a h ha => op_ridden h hFU ha) hI e1 (by omega) hL hj) (fun g => ?_)
      replace hy : 27 ≤ y ∧ y ≤ 52 := by omega
      clear g
      refine wp_ite (fun _ => go2 (E := w32) (f6 := fX6_boardings FU) (f7 := fX7_boardings FU) (fun V a b h ha hb => op_boardings h hFU ha hb) hI e1 e2 (by omega) (by omega) hL hj) (fun g => ?_)
      replace hy : 28 ≤ y ∧ y ≤ 52 := by omega
      clear g
      refine wp_ite (fun _ => go0 (E := w64) (f6 := fX6_total FU) (f7 := fX7_total FU) (fun V h => op_total h hFU) hI hj) (fun g => ?_)
      replace hy : 29 ≤ y ∧ y ≤ 52 := by omega
      clear g
      refine wp_ite (fun _ => go0 (E := w32) (f6 := fX6_fullest FU) (f7 := fX7_fullest FU) (fun V h => op_fullest h hFU) hI hj) (fun g => ?_)
      replace hy : 30 ≤ y ∧ y ≤ 52 := by omega
      clear g
      refine wp_ite (fun _ => go0 (E := w32) (f6 := fX6_changes FU) (f7 := fX7_changes FU) (fun V h => op_changes h hFU) hI hj) (fun g => ?_)
      replace hy : 31 ≤ y ∧ y ≤ 52 := by omega
      clear g
      refine wp_ite (fun _ => go1 (E := w32) (f6 := fX6_crowd FU) (f7 := fX7_crowd FU) (fun V a h ha => op_crowd h ha) hI e1 (by omega) hL hj) (fun g => ?_)
      replace hy : 32 ≤ y ∧ y ≤ 52 := by omega
      clear g
      refine wp_ite (fun _ => go2 (E := w32) (f6 := fX6_seats FU) (f7 := fX7_seats FU) (fun V a b h ha hb => op_seats h ha hb) hI e1 e2 (by omega) (by omega) hL hj) (fun g => ?_)
      replace hy : 33 ≤ y ∧ y ≤ 52 := by omega
      clear g
      refine wp_ite (fun _ => go1 (E := w32) (f6 := fX6_settles FU) (f7 := fX7_settles FU) (fun V a h ha => op_settles h (by omega) hFU ha) hI e1 (by omega) hL hj) (fun g => ?_)
      replace hy : 34 ≤ y ∧ y ≤ 52 := by omega
      clear g
      refine wp_ite (fun _ => go2 (E := w32) (f6 := fX6_balances FU) (f7 := fX7_balances FU) (fun V a b h ha hb => op_balances h (by omega) hFU ha hb) hI e1 e2 (by omega) (by omega) hL hj) (fun g => ?_)
      replace hy : 35 ≤ y ∧ y ≤ 52 := by omega
      clear g
      refine wp_ite (fun _ => go2 (E := w32) (f6 := fX6_averaged FU) (f7 := fX7_averaged FU) (fun V a b h ha hb => op_averaged h ha hb) hI e1 e2 (by omega) (by omega) hL hj) (fun g => ?_)
      replace hy : 36 ≤ y ∧ y ≤ 52 := by omega
      clear g
      refine wp_ite (fun _ => go0 (E := w32) (f6 := fX6_clears FU) (f7 := fX7_clears FU) (fun V h => op_clears h hFU) hI hj) (fun g => ?_)
      replace hy : 37 ≤ y ∧ y ≤ 52 := by omega
      clear g
      refine wp_ite (fun _ => go1 (E := w64) (f6 := fX6_without FU) (f7 := fX7_without FU) (fun V a h ha => op_without h hFU ha) hI e1 (by omega) hL hj) (fun g => ?_)
      replace hy : 38 ≤ y ∧ y ≤ 52 := by omega
      clear g
      refine wp_ite (fun _ => go1 (E := w64) (f6 := fX6_shut FU) (f7 := fX7_shut FU) (fun V a h ha => op_shut h hFU ha) hI e1 (by omega) hL hj) (fun g => ?_)
      replace hy : 39 ≤ y ∧ y ≤ 52 := by omega
      clear g
      refine wp_ite (fun _ => go2 (E := w64) (f6 := fX6_more FU) (f7 := fX7_more FU) (fun V a b h ha hb => op_more h hFU ha hb) hI e1 e2 (by omega) (by omega) hL hj) (fun g => ?_)
      replace hy : 40 ≤ y ∧ y ≤ 52 := by omega
      clear g
      refine wp_ite (fun _ => go1 (E := w32) (f6 := fX6_best FU) (f7 := fX7_best FU) (fun V a h ha => op_best h hFU ha) hI e1 (by omega) hL hj) (fun g => ?_)
      replace hy : 41 ≤ y ∧ y ≤ 52 := by omega
      clear g
      refine wp_ite (fun _ => go1 (E := w64) (f6 := fX6_towards FU) (f7 := fX7_towards FU) (fun V a h ha => op_towards h hFU ha) hI e1 (by omega) hL hj) (fun g => ?_)
      replace hy : 42 ≤ y ∧ y ≤ 52 := by omega
      clear g
      refine wp_ite (fun _ => go3 (E := w64) (f6 := fX6_slower FU) (f7 := fX7_slower FU) (fun V a b d h ha hb hd => op_slower h hFU ha hb hd) hI e1 e2 e3 (by omega) (by omega) (by omega) hL hj) (fun g => ?_)
      replace hy : 43 ≤ y ∧ y ≤ 52 := by omega
      clear g
      refine wp_ite (fun _ => go2 (E := w64) (f6 := fX6_skips FU) (f7 := fX7_skips FU) (fun V a b h ha hb => hsk t V a b h ha hb) hI e1 e2 (by omega) (by omega) hL hj) (fun g => ?_)
      replace hy : 44 ≤ y ∧ y ≤ 52 := by omega
      clear g
      refine wp_ite (fun _ => go2 (E := w32) (f6 := fX6_uses FU) (f7 := fX7_uses FU) (fun V a b h ha hb => op_uses h hFU ha hb) hI e1 e2 (by omega) (by omega) hL hj) (fun g => ?_)
      replace hy : 45 ≤ y ∧ y ≤ 52 := by omega
      clear g
      refine wp_ite (fun _ => go0 (E := w32) (f6 := fX6_centre FU) (f7 := fX7_centre FU) (fun V h => op_centre h hFU) hI hj) (fun g => ?_)
      replace hy : 46 ≤ y ∧ y ≤ 52 := by omega
      clear g
      refine wp_ite (fun _ => go0 (E := w32) (f6 := fX6_spare FU) (f7 := fX7_spare FU) (fun V h => op_spare h hFU) hI hj) (fun g => ?_)
      replace hy : 47 ≤ y ∧ y ≤ 52 := by omega
      clear g
      refine wp_ite (fun _ => go2 (E := w32) (f6 := fX6_offset FU) (f7 := fX7_offset FU) (fun V a b h ha hb => op_offset h ha hb) hI e1 e2 (by omega) (by omega) hL hj) (fun g => ?_)
      replace hy : 48 ≤ y ∧ y ≤ 52 := by omega
      clear g
      refine wp_ite (fun _ => go3 (E := w32) (f6 := fX6_comes FU) (f7 := fX7_comes FU) (fun V a b d h ha hb hd => op_comes h hFU ha hb hd) hI e1 e2 e3 (by omega) (by omega) (by omega) hL hj) (fun g => ?_)
      replace hy : 49 ≤ y ∧ y ≤ 52 := by omega
      clear g
      refine wp_ite (fun _ => go2 (E := w32) (f6 := fX6_journey FU) (f7 := fX7_journey FU) (fun V a b h ha hb => op_journey h hFU ha hb) hI e1 e2 (by omega) (by omega) hL hj) (fun g => ?_)
      replace hy : 50 ≤ y ∧ y ≤ 52 := by omega
      clear g
      refine wp_ite (fun _ => go2 (E := w32) (f6 := fX6_usual FU) (f7 := fX7_usual FU) (fun V a b h ha hb => op_usual h hFU ha hb) hI e1 e2 (by omega) (by omega) hL hj) (fun g => ?_)
      replace hy : 51 ≤ y ∧ y ≤ 52 := by omega
      clear g
      refine wp_ite (fun _ => go1 (E := w32) (f6 := fX6_count FU) (f7 := fX7_count FU) (fun V a h ha => op_count h hFU ha) hI e1 (by omega) hL hj) (fun g => ?_)
      replace hy : 52 ≤ y ∧ y ≤ 52 := by omega
      clear g
      refine wp_ite (fun _ => row_go hI e1 (by omega) hL hj) (fun g => ?_)
      replace hy : 53 ≤ y ∧ y ≤ 52 := by omega
      clear g
      exact absurd hy (by omega)
theorem inv_start : Inv 0 memS := by
  have e : ∀ k j, k < 361 → memS k j = M0 k j := fun k j h => by rw [memS_lt h]
  have eP : ∀ l, PL memS l = pl (M0 137 l) := fun l => by
    unfold PL
    rw [e 136 0 (by omega), show pl (M0 136 0) = 137 by decide +kernel, e 137 l (by omega)]
  have eQ : ∀ l, QL memS l = pl (M0 3 l) := fun l => by
    unfold QL
    rw [e 1 2 (by omega), show pl (M0 1 2) = 3 by decide +kernel, e 3 l (by omega)]
  have hn : nn memS = 0 := by unfold nn; rw [e _ _ (by omega)]; decide +kernel
  refine ⟨memS, ⟨⟨?_, ?_, ?_, ?_, fun s hs => ?_, fun l hl => by omega⟩, ?_, ⟨?_, ?_, fun l hl => by omega⟩, ?_, ?_⟩, ⟨⟨⟨?_, fun l hl => ?_, fun l hl => ?_, fun l m hl hm => ?_, fun l m hl hm => ?_, fun l m hl hm => ?_⟩, ?_, ?_, ?_, ?_, ?_, fun s hs => ?_, fun l hl => by omega⟩, ⟨?_, fun i hi => ?_⟩, ⟨?_, fun i hi => ?_⟩⟩, ⟨⟨fun _ _ => rfl, fun _ _ _ _ => rfl⟩, fun _ _ => rfl, rfl, fun _ => rfl, rfl, fun _ => rfl⟩⟩
  · rw [e _ _ (by omega)]; decide +kernel
  · rw [e _ _ (by omega)]; decide +kernel
  · rw [e _ _ (by omega)]; decide +kernel
  · rw [e _ _ (by omega)]; decide +kernel
  · rw [e _ _ (by omega), e _ _ (by omega)]
    exact (by decide +kernel : ∀ s, s < 10 → (0 ≤ M0 338 s ∧ M0 338 s ≤ 9999) ∧ (M0 339 s = 0 ∨ M0 339 s = 1)) s hs
  · rw [e _ _ (by omega)]; decide +kernel
  · rw [e _ _ (by omega)]; decide +kernel
  · rw [e _ _ (by omega)]; decide +kernel
  · rw [e _ _ (by omega)]; decide +kernel
  · rw [e _ _ (by omega)]; decide +kernel
  · rw [e _ _ (by omega), e _ _ (by omega)]; decide +kernel
  · rw [eP]; exact (by decide +kernel : ∀ l, l < 12 → isL (pl (M0 137 l))) l hl
  · rw [eQ]; exact (by decide +kernel : ∀ l, l < 12 → isL (pl (M0 3 l))) l hl
  · rw [eP, eP]; exact (by decide +kernel : ∀ l, l < 12 → ∀ m, m < 12 → pl (M0 137 l) = pl (M0 137 m) → l = m) l hl m hm
  · rw [eQ, eQ]; exact (by decide +kernel : ∀ l, l < 12 → ∀ m, m < 12 → pl (M0 3 l) = pl (M0 3 m) → l = m) l hl m hm
  · rw [eP, eQ]; exact (by decide +kernel : ∀ l, l < 12 → ∀ m, m < 12 → pl (M0 137 l) ≠ pl (M0 3 m)) l hl m hm
  · rw [e _ _ (by omega), e _ _ (by omega)]; decide +kernel
  · rw [e _ _ (by omega), e _ _ (by omega)]; decide +kernel
  · rw [e _ _ (by omega), e _ _ (by omega)]; decide +kernel
  · rw [e _ _ (by omega), e _ _ (by omega)]; decide +kernel
  · rw [e _ _ (by omega), e _ _ (by omega)]; decide +kernel
  · rw [e _ _ (by omega), e _ _ (by omega), e _ _ (by omega), e _ _ (by omega)]
    exact (by decide +kernel : ∀ s, s < 10 → M0 (283 + 4 * s) 0 = M0 338 s ∧ M0 (283 + 4 * s) 1 = M0 339 s) s hs
  · rw [e _ _ (by omega), e _ _ (by omega)]; decide +kernel
  · have h0 : memS 328 17 = 0 := by rw [e _ _ (by omega)]; decide +kernel
    omega
  · rw [e _ _ (by omega), e _ _ (by omega)]; decide +kernel
  · have h0 : memS 328 19 = 0 := by rw [e _ _ (by omega)]; decide +kernel
    omega
theorem law_of (hsk : ∀ t V a b, OkA t V → R32 a → R32 b → Op t V (fX6_skips FU a b) (fX7_skips FU a b)) : LawPure := by
  intro L xs hL
  obtain ⟨r, s, e, _⟩ := law_turns (xs := xs) hsk hL 520 0 memS (by omega) (by omega) inv_start
  exact ⟨r, s, e⟩
end LAW
