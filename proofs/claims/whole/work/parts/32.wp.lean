/-! ===== a word that comes to an end, and how ===== -/
def wp (q : PR) (Q : Int → Mem → Prop) : Prop := ∃ r σ, q = some (r, σ) ∧ Q r σ
section WP
variable {Q R : Int → Mem → Prop} {q q1 q2 : PR} {σ : Mem} {a b i v e : Int} {k n j : Nat}
theorem wp_some (h : Q a σ) : wp (some (a, σ)) Q := ⟨a, σ, rfl, h⟩
theorem wp_imp (h : wp q R) (g : ∀ r σ, R r σ → Q r σ) : wp q Q := by
  obtain ⟨r, σ, e, h⟩ := h
  exact ⟨r, σ, e, g r σ h⟩
theorem wp_bnd {c : Int → Mem → PR} (R : Int → Mem → Prop) (h : wp q R) (g : ∀ r σ, R r σ → wp (c r σ) Q) : wp (bnd q c) Q := by
  obtain ⟨r, σ, e, h⟩ := h
  rw [e, bnd_eq]
  exact g r σ h
theorem wp_ite {c : Prop} {hc : Decidable c} (kt : c → wp q1 Q) (kf : ¬ c → wp q2 Q) : wp (@ite PR c hc q1 q2) Q := by
  by_cases h : c
  · rw [if_pos h]; exact kt h
  · rw [if_neg h]; exact kf h
theorem wp_lt {c : Int → PR} (h : wp (c e) Q) : wp (lt e c) Q := h
theorem wp_stf {c : Mem → PR} (h : wp (c (mset σ k j v)) Q) : wp (stf σ k j v c) Q := h
theorem wp_rfd {c : Nat → PR} (h : wp (c (pl v)) Q) : wp (rfd v c) Q := h
theorem wp_jn {α : Type} {k : α} {f : α → PR} (h : wp (f k) Q) : wp (jn k f) Q := h
theorem wp_jm {k : Mem → PR} {f : (Mem → PR) → PR} (M : Mem → Prop) (hk : ∀ s, M s → wp (k s) Q) (h : ∀ j : Mem → PR, (∀ s, M s → wp (j s) Q) → wp (f j) Q) : wp (jn k f) Q := h k hk
theorem wp_ji {k : Int → Mem → PR} {f : (Int → Mem → PR) → PR} (M : Int → Mem → Prop) (hk : ∀ x s, M x s → wp (k x s) Q) (h : ∀ j : Int → Mem → PR, (∀ x s, M x s → wp (j x s) Q) → wp (f j) Q) : wp (jn k f) Q := h k hk
theorem wp_ji2 {k : Int → Int → Mem → PR} {f : (Int → Int → Mem → PR) → PR} (M : Int → Int → Mem → Prop) (hk : ∀ x y s, M x y s → wp (k x y s) Q) (h : ∀ j : Int → Int → Mem → PR, (∀ x y s, M x y s → wp (j x y s) Q) → wp (f j) Q) : wp (jn k f) Q := h k hk
theorem wp_ji3 {k : Int → Int → Int → Mem → PR} {f : (Int → Int → Int → Mem → PR) → PR} (M : Int → Int → Int → Mem → Prop) (hk : ∀ x y z s, M x y z s → wp (k x y z s) Q) (h : ∀ j : Int → Int → Int → Mem → PR, (∀ x y z s, M x y z s → wp (j x y z s) Q) → wp (f j) Q) : wp (jn k f) Q := h k hk
theorem rI {c : Int → PR} (p : Nat) (hi : i = (p : Int)) (hp : p < n) (g : wp (c (σ k p)) Q) (hn : n < 100000 := by decide) : wp (rdI σ k n i c) Q := by
  rw [rdI_at p hi hp hn]; exact g
theorem wI {c : Mem → PR} (p : Nat) (hi : i = (p : Int)) (hp : p < n) (g : wp (c (mset σ k p v)) Q) (hn : n < 100000 := by decide) : wp (wrI σ k n i v c) Q := by
  rw [wrI_at p hi hp hn]; exact g
theorem rR {c : Nat → PR} (p : Nat) (hi : i = (p : Int)) (hp : p < n) (g : wp (c (pl (σ k p))) Q) (hn : n < 100000 := by decide) : wp (rdR σ k n i c) Q := by
  rw [rdR_at p hi hp hn]; exact g
theorem rS {c : Nat → PR} (p : Nat) (hi : i = (p : Int)) (hp : p < 10) (g : wp (c (283 + 4 * p)) Q) : wp (rdS i c) Q := by
  rw [rdS_at p hi hp]; exact g
theorem wp_rtz (h : a = 0 ∨ a = 1) (g : Q a σ) : wp (rtz a σ) Q := by
  unfold rtz; rw [if_pos h]; exact wp_some g
theorem wp_stz {c : Mem → PR} (h : v = 0 ∨ v = 1) (g : wp (c (mset σ k j v)) Q) : wp (stz σ k j v c) Q := by
  unfold stz; rw [if_pos h]; exact g
theorem wp_dv64 {d : Int} (hd : R64 d) (h : d ≠ 0) (g : wp q Q) : wp (dv64 d q) Q := by
  unfold dv64; rw [w64_id hd, if_neg h]; exact g
theorem wp_dv32 {d : Int} (hd : R32 d) (h : d ≠ 0) (g : wp q Q) : wp (dv32 d q) Q := by
  unfold dv32; rw [w32_id hd, if_neg h]; exact g
theorem iLe (kt : a ≤ b → wp q1 Q) (kf : b < a → wp q2 Q) (ha : R32 a := by omega) (hb : R32 b := by omega) : wp (if w32 a ≤ w32 b then q1 else q2) Q := by
  rw [w32_id ha, w32_id hb]
  exact wp_ite kt (fun h => kf (by omega))
theorem iLt (kt : a < b → wp q1 Q) (kf : b ≤ a → wp q2 Q) (ha : R32 a := by omega) (hb : R32 b := by omega) : wp (if w32 a < w32 b then q1 else q2) Q := by
  rw [w32_id ha, w32_id hb]
  exact wp_ite kt (fun h => kf (by omega))
theorem iEq (kt : a = b → wp q1 Q) (kf : a ≠ b → wp q2 Q) (ha : R32 a := by omega) (hb : R32 b := by omega) : wp (if w32 a = w32 b then q1 else q2) Q := by
  rw [w32_id ha, w32_id hb]
  exact wp_ite kt (fun h => kf (by omega))
theorem iNe (kt : a ≠ b → wp q1 Q) (kf : a = b → wp q2 Q) (ha : R32 a := by omega) (hb : R32 b := by omega) : wp (if w32 a ≠ w32 b then q1 else q2) Q := by
  rw [w32_id ha, w32_id hb]
  exact wp_ite kt (fun h => kf (by omega))
theorem iLe0 (kt : a ≤ 0 → wp q1 Q) (kf : 0 < a → wp q2 Q) (ha : R32 a := by omega) : wp (if w32 a ≤ 0 then q1 else q2) Q := by
  rw [w32_id ha]
  exact wp_ite kt (fun h => kf (by omega))
theorem iLt0 (kt : a < 0 → wp q1 Q) (kf : 0 ≤ a → wp q2 Q) (ha : R32 a := by omega) : wp (if w32 a < 0 then q1 else q2) Q := by
  rw [w32_id ha]
  exact wp_ite kt (fun h => kf (by omega))
theorem iGe0 (kt : 0 ≤ a → wp q1 Q) (kf : a < 0 → wp q2 Q) (ha : R32 a := by omega) : wp (if 0 ≤ w32 a then q1 else q2) Q := by
  rw [w32_id ha]
  exact wp_ite kt (fun h => kf (by omega))
theorem iEq0 (kt : a = 0 → wp q1 Q) (kf : a ≠ 0 → wp q2 Q) (ha : R32 a := by omega) : wp (if w32 a = 0 then q1 else q2) Q := by
  rw [w32_id ha]
  exact wp_ite kt (fun h => kf (by omega))
theorem iNe0 (kt : a ≠ 0 → wp q1 Q) (kf : a = 0 → wp q2 Q) (ha : R32 a := by omega) : wp (if w32 a ≠ 0 then q1 else q2) Q := by
  rw [w32_id ha]
  exact wp_ite kt (fun h => kf (by omega))
theorem jLe (kt : a ≤ b → wp q1 Q) (kf : b < a → wp q2 Q) (ha : R64 a := by omega) (hb : R64 b := by omega) : wp (if w64 a ≤ w64 b then q1 else q2) Q := by
  rw [w64_id ha, w64_id hb]
  exact wp_ite kt (fun h => kf (by omega))
theorem jLt (kt : a < b → wp q1 Q) (kf : b ≤ a → wp q2 Q) (ha : R64 a := by omega) (hb : R64 b := by omega) : wp (if w64 a < w64 b then q1 else q2) Q := by
  rw [w64_id ha, w64_id hb]
  exact wp_ite kt (fun h => kf (by omega))
theorem jEq (kt : a = b → wp q1 Q) (kf : a ≠ b → wp q2 Q) (ha : R64 a := by omega) (hb : R64 b := by omega) : wp (if w64 a = w64 b then q1 else q2) Q := by
  rw [w64_id ha, w64_id hb]
  exact wp_ite kt (fun h => kf (by omega))
theorem jNe (kt : a ≠ b → wp q1 Q) (kf : a = b → wp q2 Q) (ha : R64 a := by omega) (hb : R64 b := by omega) : wp (if w64 a ≠ w64 b then q1 else q2) Q := by
  rw [w64_id ha, w64_id hb]
  exact wp_ite kt (fun h => kf (by omega))
end WP
theorem ms_eq (σ : Mem) (k j : Nat) (v : Int) : mset σ k j v k j = v := by rw [mset_eq]; simp
theorem ms_k {σ : Mem} {k j a b : Nat} {v : Int} (h : a ≠ k) : mset σ k j v a b = σ a b := by rw [mset_eq, if_neg (fun g => h g.1)]
theorem ms_j {σ : Mem} {k j a b : Nat} {v : Int} (h : b ≠ j) : mset σ k j v a b = σ a b := by rw [mset_eq, if_neg (fun g => h g.2)]
theorem w32_sm {x : Int} (h1 : -2147483648 ≤ x) (h2 : x < 2147483648) : w32 x = x := w32_small h1 h2
theorem w64_sm {x : Int} (h1 : -9223372036854775808 ≤ x) (h2 : x < 9223372036854775808) : w64 x = x := w64_id ⟨h1, h2⟩
/-! ===== loops ===== -/
section FOR
variable {Q : Int → Mem → Prop}
theorem for1 {f : Nat → Int → Mem → PR} (N : Nat) (J : Nat → Mem → Prop)
    (hs : ∀ n i σ, i < N → J i σ → (∀ σ', J (i + 1) σ' → wp (f n ((i : Int) + 1) σ') Q) → wp (f (n + 1) (i : Int) σ) Q)
    (he : ∀ n σ, J N σ → wp (f (n + 1) (N : Int) σ) Q) {i fuel : Nat} {σ : Mem} (h0 : J i σ) (hi : i ≤ N := by omega) (hf : N - i < fuel := by omega) : wp (f fuel (i : Int) σ) Q := by
  induction fuel generalizing i σ with
  | zero => omega
  | succ n ih =>
    by_cases h : i = N
    · subst h; exact he n σ h0
    · exact hs n i σ (by omega) h0 (fun σ' h' => ih (i := i + 1) h' (by omega) (by omega))
theorem for2 {f : Nat → Int → Int → Mem → PR} (N : Nat) (J : Nat → Int → Mem → Prop)
    (hs : ∀ n i a σ, i < N → J i a σ → (∀ a' σ', J (i + 1) a' σ' → wp (f n a' ((i : Int) + 1) σ') Q) → wp (f (n + 1) a (i : Int) σ) Q)
    (he : ∀ n a σ, J N a σ → wp (f (n + 1) a (N : Int) σ) Q) {i fuel : Nat} {a : Int} {σ : Mem} (h0 : J i a σ) (hi : i ≤ N := by omega) (hf : N - i < fuel := by omega) : wp (f fuel a (i : Int) σ) Q := by
  induction fuel generalizing i σ a with
  | zero => omega
  | succ n ih =>
    by_cases h : i = N
    · subst h; exact he n a σ h0
    · exact hs n i a σ (by omega) h0 (fun a' σ' h' => ih (i := i + 1) h' (by omega) (by omega))
theorem for3 {f : Nat → Int → Int → Int → Mem → PR} (N : Nat) (J : Nat → Int → Int → Mem → Prop)
    (hs : ∀ n i a b σ, i < N → J i a b σ → (∀ a' b' σ', J (i + 1) a' b' σ' → wp (f n a' b' ((i : Int) + 1) σ') Q) → wp (f (n + 1) a b (i : Int) σ) Q)
    (he : ∀ n a b σ, J N a b σ → wp (f (n + 1) a b (N : Int) σ) Q) {i fuel : Nat} {a b : Int} {σ : Mem} (h0 : J i a b σ) (hi : i ≤ N := by omega) (hf : N - i < fuel := by omega) : wp (f fuel a b (i : Int) σ) Q := by
  induction fuel generalizing i σ a b with
  | zero => omega
  | succ n ih =>
    by_cases h : i = N
    · subst h; exact he n a b σ h0
    · exact hs n i a b σ (by omega) h0 (fun a' b' σ' h' => ih (i := i + 1) h' (by omega) (by omega))
theorem for4 {f : Nat → Int → Int → Int → Int → Mem → PR} (N : Nat) (J : Nat → Int → Int → Int → Mem → Prop)
    (hs : ∀ n i a b c σ, i < N → J i a b c σ → (∀ a' b' c' σ', J (i + 1) a' b' c' σ' → wp (f n a' b' c' ((i : Int) + 1) σ') Q) → wp (f (n + 1) a b c (i : Int) σ) Q)
    (he : ∀ n a b c σ, J N a b c σ → wp (f (n + 1) a b c (N : Int) σ) Q) {i fuel : Nat} {a b c : Int} {σ : Mem} (h0 : J i a b c σ) (hi : i ≤ N := by omega) (hf : N - i < fuel := by omega) : wp (f fuel a b c (i : Int) σ) Q := by
  induction fuel generalizing i σ a b c with
  | zero => omega
  | succ n ih =>
    by_cases h : i = N
    · subst h; exact he n a b c σ h0
    · exact hs n i a b c σ (by omega) h0 (fun a' b' c' σ' h' => ih (i := i + 1) h' (by omega) (by omega))
/-- downwards: J i: the places from i on are done -/
theorem down1 {f : Nat → Int → Mem → PR} (N : Nat) (J : Nat → Mem → Prop)
    (hs : ∀ n i σ, i < N → J (i + 1) σ → (∀ σ', J i σ' → wp (f n ((i : Int) + (-1)) σ') Q) → wp (f (n + 1) (i : Int) σ) Q)
    (he : ∀ n σ, J 0 σ → wp (f (n + 1) (-1) σ) Q) {i fuel : Nat} {x : Int} {σ : Mem} (h0 : J i σ) (hx : x = (i : Int) - 1) (hi : i ≤ N := by omega) (hf : i < fuel := by omega) : wp (f fuel x σ) Q := by
  induction fuel generalizing i σ x with
  | zero => omega
  | succ n ih =>
    cases i with
    | zero => rw [show x = -1 by omega]; exact he n σ h0
    | succ i =>
      rw [show x = (i : Int) by omega]
      exact hs n i σ (by omega) h0 (fun σ' h' => ih (i := i) h' (by omega) (by omega) (by omega))
theorem down2 {f : Nat → Int → Int → Mem → PR} (N : Nat) (J : Nat → Int → Mem → Prop)
    (hs : ∀ n i a σ, i < N → J (i + 1) a σ → (∀ a' σ', J i a' σ' → wp (f n a' ((i : Int) + (-1)) σ') Q) → wp (f (n + 1) a (i : Int) σ) Q)
    (he : ∀ n a σ, J 0 a σ → wp (f (n + 1) a (-1) σ) Q) {i fuel : Nat} {a x : Int} {σ : Mem} (h0 : J i a σ) (hx : x = (i : Int) - 1) (hi : i ≤ N := by omega) (hf : i < fuel := by omega) : wp (f fuel a x σ) Q := by
  induction fuel generalizing i σ a x with
  | zero => omega
  | succ n ih =>
    cases i with
    | zero => rw [show x = -1 by omega]; exact he n a σ h0
    | succ i =>
      rw [show x = (i : Int) by omega]
      exact hs n i a σ (by omega) h0 (fun a' σ' h' => ih (i := i) h' (by omega) (by omega) (by omega))
end FOR
