/-! ===== the pure words' small pieces ===== -/
abbrev R32 (x : Int) : Prop := -2147483648 ≤ x ∧ x < 2147483648
abbrev R64 (x : Int) : Prop := -9223372036854775808 ≤ x ∧ x < 9223372036854775808
theorem w32_id {x : Int} (h : R32 x) : w32 x = x := w32_small h.1 h.2
theorem w64_id {x : Int} (h : R64 x) : w64 x = x := Int64.toInt_ofInt_of_le (by unfold R64 at h; omega) (by unfold R64 at h; omega)
theorem w32_R (x : Int) : R32 (w32 x) := by
  unfold w32 R32
  have h1 := Int32.le_toInt (Int32.ofInt x)
  have h2 := Int32.toInt_lt (Int32.ofInt x)
  omega
theorem R32_64 {x : Int} (h : R32 x) : R64 x := by unfold R32 R64 at *; omega
theorem w32_w32 (x : Int) : w32 (w32 x) = w32 x := w32_id (w32_R x)
theorem w64_w32 (x : Int) : w64 (w32 x) = w32 x := w64_id (R32_64 (w32_R x))
theorem rdI_at {σ : Mem} {k n : Nat} {i : Int} {c : Int → PR} (p : Nat) (hi : i = (p : Int)) (hp : p < n) (hn : n < 100000) : rdI σ k n i c = c (σ k p) := by
  subst hi
  unfold rdI
  have h : w32 (p : Int) = (p : Int) := w32_id (by unfold R32; omega)
  rw [h, if_pos (by omega)]
  rfl
theorem wrI_at {σ : Mem} {k n : Nat} {i v : Int} {c : Mem → PR} (p : Nat) (hi : i = (p : Int)) (hp : p < n) (hn : n < 100000) : wrI σ k n i v c = c (mset σ k p v) := by
  subst hi
  unfold wrI
  have h : w32 (p : Int) = (p : Int) := w32_id (by unfold R32; omega)
  rw [h, if_pos (by omega)]
  rfl
theorem rdR_at {σ : Mem} {k n : Nat} {i : Int} {c : Nat → PR} (p : Nat) (hi : i = (p : Int)) (hp : p < n) (hn : n < 100000) : rdR σ k n i c = c (pl (σ k p)) := by
  subst hi
  unfold rdR
  have h : w32 (p : Int) = (p : Int) := w32_id (by unfold R32; omega)
  rw [h, if_pos (by omega)]
  rfl
theorem rdS_at {i : Int} {c : Nat → PR} (p : Nat) (hi : i = (p : Int)) (hp : p < 10) : rdS i c = c (283 + 4 * p) := by
  subst hi
  unfold rdS
  have h : w32 (p : Int) = (p : Int) := w32_id (by unfold R32; omega)
  rw [h, if_pos (by omega)]
  rfl
theorem n1_0 : n1 0 = 0 := by decide +kernel
theorem n1_1 : n1 1 = 1 := by decide +kernel
theorem rtz_0 (σ : Mem) : rtz 0 σ = some (0, σ) := by simp [rtz]
theorem rtz_1 (σ : Mem) : rtz 1 σ = some (1, σ) := by simp [rtz]
theorem bnd_eq {r : Int} {σ : Mem} {c : Int → Mem → PR} : bnd (some (r, σ)) c = c r σ := rfl
theorem div64_eq {a b : Int} (ha : R64 a) (hb : R64 b) (h1 : 1 ≤ b) : div64 a b = a.tdiv b := by
  unfold div64
  have hne : Int64.ofInt b ≠ -1 := by
    intro h
    have h2 : (Int64.ofInt b).toInt = (-1 : Int64).toInt := by rw [h]
    have h3 : (Int64.ofInt b).toInt = b := w64_id hb
    rw [h3] at h2
    have h4 : (-1 : Int64).toInt = -1 := by decide +kernel
    omega
  rw [Int64.toInt_div_of_ne_right _ _ hne]
  have h3 : (Int64.ofInt b).toInt = b := w64_id hb
  have h5 : (Int64.ofInt a).toInt = a := w64_id ha
  rw [h3, h5]
theorem parts_eq (fu : Nat) {a b : Int} (σ : Mem) (ha : R64 a) (hb : R64 b) (h1 : 1 ≤ b) : fX6_parts fu a b σ = some (a.tdiv b, σ) := by
  unfold fX6_parts jn dv64
  dsimp only
  have e1 : w64 1 = 1 := by decide +kernel
  rw [e1, w64_id hb, if_pos h1, if_neg (by omega), div64_eq ha hb h1]
theorem parts_pos (fu : Nat) {a b : Int} (σ : Mem) (ha : R64 a) (h0 : 0 ≤ a) (hb : R64 b) (h1 : 1 ≤ b) : fX6_parts fu a b σ = some (a / b, σ) := by
  rw [parts_eq fu σ ha hb h1, Int.tdiv_eq_ediv_of_nonneg h0]
/-! ===== places ===== -/
theorem line_lt {P : Nat} (h : kd P = 1) : P + 10 < 283 := (by decide +kernel : ∀ P, P < NN → kd P = 1 → P + 10 < 283) P (kd_lt h (by decide)) h
theorem line_ge {P : Nat} (h : kd P = 1) : 4 ≤ P := (by decide +kernel : ∀ P, P < NN → kd P = 1 → 4 ≤ P) P (kd_lt h (by decide)) h
/-- two lines' places are apart by eleven at least -/
theorem line_apart {P Q : Nat} (h : kd P = 1) (h2 : kd Q = 1) (hne : P ≠ Q) : P + 10 < Q ∨ Q + 10 < P := by
  have hP : (P - 4) % 11 = 0 ∧ P < 136 ∨ (P - 138) % 11 = 0 ∧ 138 ≤ P ∧ P < 270 ∨ P = 272 := (by decide +kernel : ∀ P, P < NN → kd P = 1 → (P - 4) % 11 = 0 ∧ P < 136 ∨ (P - 138) % 11 = 0 ∧ 138 ≤ P ∧ P < 270 ∨ P = 272) P (kd_lt h (by decide)) h
  have hQ : (Q - 4) % 11 = 0 ∧ Q < 136 ∨ (Q - 138) % 11 = 0 ∧ 138 ≤ Q ∧ Q < 270 ∨ Q = 272 := (by decide +kernel : ∀ P, P < NN → kd P = 1 → (P - 4) % 11 = 0 ∧ P < 136 ∨ (P - 138) % 11 = 0 ∧ 138 ≤ P ∧ P < 270 ∨ P = 272) Q (kd_lt h2 (by decide)) h2
  have g1 := line_ge h
  have g2 := line_ge h2
  omega
theorem line_not {P : Nat} (h : kd P = 1) : P ≠ 136 ∧ P ≠ 137 ∧ (∀ j, j ≤ 10 → P + j ≠ 136 ∧ P + j ≠ 137 ∧ P + j ≠ 270 ∧ P + j ≠ 271) := by
  have hP : (P - 4) % 11 = 0 ∧ P < 136 ∨ (P - 138) % 11 = 0 ∧ 138 ≤ P ∧ P < 270 ∨ P = 272 := (by decide +kernel : ∀ P, P < NN → kd P = 1 → (P - 4) % 11 = 0 ∧ P < 136 ∨ (P - 138) % 11 = 0 ∧ 138 ≤ P ∧ P < 270 ∨ P = 272) P (kd_lt h (by decide)) h
  have g1 := line_ge h
  refine ⟨by omega, by omega, fun j hj => ?_⟩
  omega
theorem mset_eq (σ : Mem) (k j : Nat) (v : Int) (a b : Nat) : mset σ k j v a b = if a = k ∧ b = j then v else σ a b := by
  unfold mset
  by_cases h1 : a = k
  · subst h1
    by_cases h2 : b = j
    · subst h2; simp
    · simp [h2]
  · simp [h1]
