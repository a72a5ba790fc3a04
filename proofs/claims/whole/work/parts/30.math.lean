/-! ===== costs: minus one is 'none', the greatest ===== -/
def lee (a b : Int) : Prop := b < 0 ∨ (0 ≤ a ∧ a ≤ b)
def ltt (a b : Int) : Prop := 0 ≤ a ∧ (b < 0 ∨ a < b)
/-- the lesser of two, as the programs take it -/
def mnn (a b : Int) : Int := if 0 ≤ a ∧ (b < 0 ∨ a ≤ b) then a else b
def pls (t a : Int) : Int := if a < 0 then -1 else t + a
theorem lee_refl (a : Int) : lee a a := by unfold lee; omega
theorem lee_trans {a b c : Int} (h1 : lee a b) (h2 : lee b c) : lee a c := by unfold lee at *; omega
theorem lee_or {a b : Int} (h : lee a b) (ha : -1 ≤ a) (hb : -1 ≤ b) : a = b ∨ ltt a b := by unfold lee ltt at *; omega
theorem ltt_irrefl {a b : Int} (h : ltt a b) (h2 : lee b a) : False := by unfold lee ltt at *; omega
theorem mnn_ge {a b : Int} (ha : -1 ≤ a) (hb : -1 ≤ b) : -1 ≤ mnn a b := by unfold mnn; split <;> omega
theorem pls_ge {t a : Int} (ht : 0 ≤ t) : -1 ≤ pls t a := by unfold pls; split <;> omega
theorem mnn_l {a b : Int} (ha : -1 ≤ a) : lee (mnn a b) a := by unfold mnn lee; split <;> omega
theorem mnn_r {a b : Int} : lee (mnn a b) b := by unfold mnn lee; split <;> omega
theorem mnn_or (a b : Int) : mnn a b = a ∨ mnn a b = b := by unfold mnn; split <;> simp
theorem mnn_mono {a b a' b' : Int} (h1 : lee a' a) (h2 : lee b' b) (ha : -1 ≤ a) : lee (mnn a' b') (mnn a b) := by unfold lee mnn at *; split <;> split <;> omega
theorem pls_mono {t a a' : Int} (ht : 0 ≤ t) (h : lee a' a) : lee (pls t a') (pls t a) := by unfold lee pls at *; split <;> split <;> omega
/-- aboard, by how many halts are left (0: past the last one): off p: the cost at halt p, tm p: the step's time, m halts -/
def ahR (off tm : Nat → Int) (m : Nat) : Nat → Int
  | 0 => -1
  | k + 1 => mnn (off (m - (k + 1))) (pls (tm (m - (k + 1))) (ahR off tm m k))
theorem ahR_ge {off tm : Nat → Int} {m : Nat} (ho : ∀ p, -1 ≤ off p) (ht : ∀ p, 0 ≤ tm p) : ∀ k, -1 ≤ ahR off tm m k := by
  intro k
  induction k with
  | zero => exact Int.le_refl _
  | succ k _ => exact mnn_ge (ho _) (pls_ge (ht _))
theorem ahR_mono {off off' tm : Nat → Int} {m : Nat} (ho : ∀ p, -1 ≤ off p) (ht : ∀ p, 0 ≤ tm p) (h : ∀ p, lee (off' p) (off p)) : ∀ k, lee (ahR off' tm m k) (ahR off tm m k) := by
  intro k
  induction k with
  | zero => exact lee_refl _
  | succ k ih => exact mnn_mono (h _) (pls_mono (ht _) ih) (ho _)
/-- where aboard grows less, a cost at some halt has, and it is no greater -/
theorem ahR_local {off off' tm : Nat → Int} {m : Nat} (ho : ∀ p, -1 ≤ off p) (ho' : ∀ p, -1 ≤ off' p) (ht : ∀ p, 0 ≤ tm p) (h : ∀ p, lee (off' p) (off p)) : ∀ k, k ≤ m → ltt (ahR off' tm m k) (ahR off tm m k) → ∃ p, p < m ∧ ltt (off' p) (off p) ∧ off' p ≤ ahR off' tm m k := by
  intro k
  induction k with
  | zero => intro _ h1; exact absurd h1 (by unfold ahR ltt; omega)
  | succ k ih =>
    intro hkm h1
    have hge := ahR_ge (m := m) ho ht k
    have hge' := ahR_ge (m := m) ho' ht k
    have hmono := ahR_mono (m := m) ho ht h k
    have hp : m - (k + 1) < m := by omega
    simp only [ahR] at h1 ⊢
    rcases mnn_or (off' (m - (k + 1))) (pls (tm (m - (k + 1))) (ahR off' tm m k)) with e | e
    · rw [e] at h1 ⊢
      rcases lee_or (h (m - (k + 1))) (ho' _) (ho _) with e2 | e2
      · exact absurd (mnn_l (ho _)) (fun q => ltt_irrefl h1 (by rw [e2]; exact q))
      · exact ⟨_, hp, e2, Int.le_refl _⟩
    · rw [e] at h1 ⊢
      rcases lee_or hmono hge' hge with e2 | e2
      · exact absurd (mnn_r (a := off (m - (k + 1))) (b := pls (tm (m - (k + 1))) (ahR off tm m k))) (fun q => ltt_irrefl h1 (by rw [e2]; exact q))
      · obtain ⟨p, hpm, h3, h4⟩ := ih (by omega) e2
        refine ⟨p, hpm, h3, ?_⟩
        have := ht (m - (k + 1))
        have h5 : 0 ≤ off' p := h3.1
        unfold pls
        rw [if_neg (by omega)]
        omega
/-! ===== the set of a stop: offers by rising ones, taken while worth it ===== -/
def insB (x : Int × Nat) : List (Int × Nat) → List (Int × Nat)
  | [] => [x]
  | y :: t => if x.1 < y.1 then x :: y :: t else y :: insB x t
/-- the offers of lines below n, by rising ones, of like ones by lines -/
def bset (bd : Nat → Int) : Nat → List (Int × Nat)
  | 0 => []
  | n + 1 => if bd n < 0 then bset bd n else insB (bd n, n) (bset bd n)
/-- which are taken, and N and F then -/
def gre (fr : Nat → Int) : Int → Int → List (Int × Nat) → List (Int × Nat) × Int × Int
  | N, F, [] => ([], N, F)
  | N, F, x :: t => if F = 0 ∨ x.1 < N / F then (x :: (gre fr (N + fr x.2 * x.1) (F + fr x.2) t).1, (gre fr (N + fr x.2 * x.1) (F + fr x.2) t).2) else ([], N, F)
def cst (fr : Nat → Int) (W : Int) (bd : Nat → Int) (n : Nat) : Int := if (gre fr W 0 (bset bd n)).2.2 = 0 then -1 else (gre fr W 0 (bset bd n)).2.1 / (gre fr W 0 (bset bd n)).2.2
def trm (f b g : Int) : Int := if g ≤ b then 0 else f * (g - b)
def phL (fr : Nat → Int) (g : Int) : List (Int × Nat) → Int
  | [] => 0
  | x :: t => trm (fr x.2) x.1 g + phL fr g t
def phi (fr bd : Nat → Int) (g : Int) : Nat → Int
  | 0 => 0
  | n + 1 => phi fr bd g n + (if bd n < 0 then 0 else trm (fr n) (bd n) g)
def Srt : List (Int × Nat) → Prop
  | [] => True
  | x :: t => (∀ y ∈ t, x.1 ≤ y.1) ∧ Srt t
theorem insB_mem {x y : Int × Nat} {L : List (Int × Nat)} : y ∈ insB x L ↔ y = x ∨ y ∈ L := by
  induction L with
  | nil => simp [insB]
  | cons z t ih =>
    unfold insB
    split
    · simp
    · simp only [List.mem_cons, ih]
      constructor <;> (intro h; rcases h with h | h | h <;> simp [h])
theorem insB_srt {x : Int × Nat} {L : List (Int × Nat)} (h : Srt L) : Srt (insB x L) := by
  induction L with
  | nil => simp [insB, Srt]
  | cons z t ih =>
    unfold insB
    split
    · rename_i hx
      refine ⟨fun y hy => ?_, h⟩
      rcases List.mem_cons.mp hy with e | e
      · subst e; exact Int.le_of_lt hx
      · exact Int.le_trans (Int.le_of_lt hx) (h.1 y e)
    · rename_i hx
      refine ⟨fun y hy => ?_, ih h.2⟩
      rcases insB_mem.mp hy with e | e
      · subst e; omega
      · exact h.1 y e
theorem insB_ph {fr : Nat → Int} {g : Int} {x : Int × Nat} {L : List (Int × Nat)} : phL fr g (insB x L) = trm (fr x.2) x.1 g + phL fr g L := by
  induction L with
  | nil => simp [insB, phL]
  | cons z t ih =>
    unfold insB
    split
    · simp [phL]
    · simp only [phL, ih]; omega
theorem bset_srt (bd : Nat → Int) : ∀ n, Srt (bset bd n) := by
  intro n
  induction n with
  | zero => trivial
  | succ n ih => unfold bset; split; exact ih; exact insB_srt ih
theorem bset_ph (fr bd : Nat → Int) (g : Int) : ∀ n, phL fr g (bset bd n) = phi fr bd g n := by
  intro n
  induction n with
  | zero => rfl
  | succ n ih =>
    unfold bset phi
    split
    · rw [ih]; omega
    · rw [insB_ph, ih]; simp only []; omega
theorem bset_mem {bd : Nat → Int} {y : Int × Nat} : ∀ {n}, y ∈ bset bd n ↔ y.2 < n ∧ y.1 = bd y.2 ∧ 0 ≤ y.1 := by
  intro n
  induction n with
  | zero => simp [bset]
  | succ n ih =>
    unfold bset
    split
    · rename_i hb
      rw [ih]
      constructor
      · intro h; exact ⟨by omega, h.2⟩
      · intro h
        refine ⟨?_, h.2⟩
        rcases Nat.lt_or_ge y.2 n with q | q
        · exact q
        · exfalso
          have : y.2 = n := by omega
          rw [← this] at hb
          omega
    · rename_i hb
      rw [insB_mem, ih]
      constructor
      · intro h
        rcases h with e | e
        · subst e; exact ⟨by simp, rfl, by simp only []; omega⟩
        · exact ⟨by omega, e.2⟩
      · intro h
        rcases Nat.lt_or_ge y.2 n with q | q
        · exact Or.inr ⟨q, h.2⟩
        · left
          have h2 : y.2 = n := by omega
          exact Prod.ext (by rw [h.2.1, h2]) h2
theorem trm_ge {f b g : Int} (hf : 0 ≤ f) : 0 ≤ trm f b g := by
  unfold trm
  split
  · exact Int.le_refl _
  · exact Int.mul_nonneg hf (by omega)
theorem phL_ge {fr : Nat → Int} {g : Int} (hf : ∀ l, 0 ≤ fr l) : ∀ L, 0 ≤ phL fr g L := by
  intro L
  induction L with
  | nil => exact Int.le_refl _
  | cons x t ih => have := trm_ge (b := x.1) (g := g) (hf x.2); simp only [phL]; omega
theorem phL_zero {fr : Nat → Int} {g : Int} : ∀ L, (∀ y ∈ L, g ≤ y.1) → phL fr g L = 0 := by
  intro L
  induction L with
  | nil => intro _; rfl
  | cons x t ih =>
    intro h
    simp only [phL]
    rw [ih (fun y hy => h y (List.mem_cons_of_mem _ hy))]
    unfold trm
    rw [if_pos (h x List.mem_cons_self)]
    rfl
theorem gre_suf {fr : Nat → Int} (hf : ∀ l, 1 ≤ fr l) : ∀ (L : List (Int × Nat)) (N F b0 : Int), 1 ≤ F → Srt L → (∀ y ∈ L, b0 ≤ y.1) → b0 * F ≤ N →
    1 ≤ (gre fr N F L).2.2 ∧ b0 ≤ (gre fr N F L).2.1 / (gre fr N F L).2.2 ∧ F * ((gre fr N F L).2.1 / (gre fr N F L).2.2) + phL fr ((gre fr N F L).2.1 / (gre fr N F L).2.2) L ≤ N ∧ N < F * ((gre fr N F L).2.1 / (gre fr N F L).2.2 + 1) + phL fr ((gre fr N F L).2.1 / (gre fr N F L).2.2 + 1) L := by
  intro L
  induction L with
  | nil =>
    intro N F b0 hF _ _ hb
    simp only [gre, phL]
    have h1 := Int.ediv_mul_le N (show F ≠ 0 by omega)
    have h2 := Int.lt_ediv_add_one_mul_self N (show 0 < F by omega)
    rw [Int.mul_comm] at h1 h2
    exact ⟨hF, (Int.le_ediv_iff_mul_le (by omega)).mpr hb, by omega, by omega⟩
  | cons x t ih =>
    intro N F b0 hF hS hb0 hb
    have hfx := hf x.2
    by_cases hc : F = 0 ∨ x.1 < N / F
    · have hlt : x.1 < N / F := by rcases hc with h | h; omega; exact h
      have hxN : x.1 * F ≤ N := (Int.le_ediv_iff_mul_le (by omega)).mp (Int.le_of_lt hlt)
      have hE : gre fr N F (x :: t) = (x :: (gre fr (N + fr x.2 * x.1) (F + fr x.2) t).1, (gre fr (N + fr x.2 * x.1) (F + fr x.2) t).2) := by
        simp only [gre]; rw [if_pos hc]
      obtain ⟨k1, k2, k3, k4⟩ := ih (N + fr x.2 * x.1) (F + fr x.2) x.1 (by omega) hS.2 hS.1 (by rw [Int.mul_add, Int.mul_comm x.1 (fr x.2)]; omega)
      rw [hE]
      simp only [phL]
      generalize (gre fr (N + fr x.2 * x.1) (F + fr x.2) t).2.1 / (gre fr (N + fr x.2 * x.1) (F + fr x.2) t).2.2 = G at k2 k3 k4 ⊢
      have hx0 := hb0 x List.mem_cons_self
      refine ⟨k1, by omega, ?_, ?_⟩
      · have e1 : trm (fr x.2) x.1 G = fr x.2 * G - fr x.2 * x.1 := by
          unfold trm
          by_cases h : G ≤ x.1
          · rw [if_pos h]
            have : G = x.1 := by omega
            rw [this]; omega
          · rw [if_neg h, Int.mul_sub]
        rw [e1]
        rw [Int.add_mul] at k3
        omega
      · have e1 : trm (fr x.2) x.1 (G + 1) = fr x.2 * (G + 1) - fr x.2 * x.1 := by
          unfold trm
          rw [if_neg (by omega), Int.mul_sub]
        rw [e1]
        rw [Int.add_mul] at k4
        omega
    · have hE : gre fr N F (x :: t) = ([], N, F) := by simp only [gre]; rw [if_neg hc]
      rw [hE]
      simp only []
      have h1 := Int.ediv_mul_le N (show F ≠ 0 by omega)
      have h2 := Int.lt_ediv_add_one_mul_self N (show 0 < F by omega)
      rw [Int.mul_comm] at h1 h2
      have hge : N / F ≤ x.1 := by omega
      have hz : phL fr (N / F) (x :: t) = 0 := phL_zero _ (fun y hy => by
        rcases List.mem_cons.mp hy with e | e
        · subst e; exact hge
        · exact Int.le_trans hge (hS.1 y e))
      have hp := phL_ge (fr := fr) (g := N / F + 1) (fun l => by have := hf l; omega) (x :: t)
      exact ⟨hF, (Int.le_ediv_iff_mul_le (by omega)).mpr hb, by rw [hz]; omega, by omega⟩
/-- what the set makes of the waiting: the greatest cost at which the gains are not above it -/
theorem gre_all {fr : Nat → Int} (hf : ∀ l, 1 ≤ fr l) {W : Int} (hW : 0 ≤ W) {L : List (Int × Nat)} (hS : Srt L) (hne : L ≠ []) (h0 : ∀ y ∈ L, 0 ≤ y.1) :
    1 ≤ (gre fr W 0 L).2.2 ∧ 0 ≤ (gre fr W 0 L).2.1 / (gre fr W 0 L).2.2 ∧ phL fr ((gre fr W 0 L).2.1 / (gre fr W 0 L).2.2) L ≤ W ∧ W < phL fr ((gre fr W 0 L).2.1 / (gre fr W 0 L).2.2 + 1) L := by
  cases L with
  | nil => exact absurd rfl hne
  | cons x t =>
    have hfx := hf x.2
    have hE : gre fr W 0 (x :: t) = (x :: (gre fr (W + fr x.2 * x.1) (0 + fr x.2) t).1, (gre fr (W + fr x.2 * x.1) (0 + fr x.2) t).2) := by
      simp only [gre]; rw [if_pos (Or.inl trivial)]
    obtain ⟨k1, k2, k3, k4⟩ := gre_suf hf t (W + fr x.2 * x.1) (0 + fr x.2) x.1 (by omega) hS.2 hS.1 (by rw [Int.zero_add, Int.mul_comm]; omega)
    rw [hE]
    simp only [phL]
    generalize (gre fr (W + fr x.2 * x.1) (0 + fr x.2) t).2.1 / (gre fr (W + fr x.2 * x.1) (0 + fr x.2) t).2.2 = G at k2 k3 k4 ⊢
    rw [Int.zero_add] at k3 k4
    have hx0 := h0 x List.mem_cons_self
    refine ⟨k1, by omega, ?_, ?_⟩
    · have e1 : trm (fr x.2) x.1 G = fr x.2 * G - fr x.2 * x.1 := by
        unfold trm
        by_cases h : G ≤ x.1
        · rw [if_pos h]
          have : G = x.1 := by omega
          rw [this]; omega
        · rw [if_neg h, Int.mul_sub]
      rw [e1]
      omega
    · have e1 : trm (fr x.2) x.1 (G + 1) = fr x.2 * (G + 1) - fr x.2 * x.1 := by
        unfold trm
        rw [if_neg (by omega), Int.mul_sub]
      rw [e1]
      omega

theorem trm_mono_g {f b g g' : Int} (hf : 0 ≤ f) (h : g ≤ g') : trm f b g ≤ trm f b g' := by
  unfold trm
  by_cases h1 : g ≤ b
  · rw [if_pos h1]
    by_cases h2 : g' ≤ b
    · rw [if_pos h2]; exact Int.le_refl _
    · rw [if_neg h2]; exact Int.mul_nonneg hf (by omega)
  · rw [if_neg h1, if_neg (by omega)]
    exact Int.mul_le_mul_of_nonneg_left (by omega) hf
theorem phi_mono_g {fr bd : Nat → Int} {g g' : Int} (hf : ∀ l, 0 ≤ fr l) (h : g ≤ g') : ∀ n, phi fr bd g n ≤ phi fr bd g' n := by
  intro n
  induction n with
  | zero => exact Int.le_refl _
  | succ n ih =>
    have := trm_mono_g (b := bd n) (hf n) h
    unfold phi
    split <;> omega
/-- lesser boardings gain no less -/
theorem phi_mono_b {fr bd bd' : Nat → Int} {g : Int} (hf : ∀ l, 0 ≤ fr l) : ∀ n, (∀ l, l < n → lee (bd' l) (bd l)) → phi fr bd g n ≤ phi fr bd' g n := by
  intro n
  induction n with
  | zero => intro _; exact Int.le_refl _
  | succ n ih =>
    intro h
    have i1 := ih (fun l hl => h l (by omega))
    have h1 := h n (by omega)
    unfold lee at h1
    unfold phi
    by_cases hb : bd n < 0
    · rw [if_pos hb]
      have := trm_ge (b := bd' n) (g := g) (hf n)
      split <;> omega
    · rw [if_neg hb, if_neg (by omega)]
      have : trm (fr n) (bd n) g ≤ trm (fr n) (bd' n) g := by
        unfold trm
        by_cases h2 : g ≤ bd n
        · rw [if_pos h2]
          split
          · exact Int.le_refl _
          · exact Int.mul_nonneg (hf n) (by omega)
        · rw [if_neg h2, if_neg (by omega)]
          exact Int.mul_le_mul_of_nonneg_left (by omega) (hf n)
      omega
/-- where they gain more, one is less and below -/
theorem phi_diff {fr bd bd' : Nat → Int} {g : Int} (hf : ∀ l, 0 ≤ fr l) : ∀ n, (∀ l, l < n → lee (bd' l) (bd l)) → phi fr bd g n < phi fr bd' g n → ∃ l, l < n ∧ ltt (bd' l) (bd l) ∧ bd' l < g := by
  intro n
  induction n with
  | zero => intro _ h; exact absurd h (Int.lt_irrefl _)
  | succ n ih =>
    intro h hlt
    rcases Int.lt_or_le (phi fr bd g n) (phi fr bd' g n) with q | q
    · obtain ⟨l, h1, h2⟩ := ih (fun l hl => h l (by omega)) q
      exact ⟨l, by omega, h2⟩
    · refine ⟨n, by omega, ?_⟩
      unfold phi at hlt
      have h1 := h n (by omega)
      by_cases hb' : bd' n < 0
      · exfalso
        unfold lee at h1
        rw [if_pos hb', if_pos (by omega)] at hlt
        omega
      · rw [if_neg hb'] at hlt
        have hg : bd' n < g := by
          rcases Int.lt_or_le (bd' n) g with z | z
          · exact z
          · exfalso
            have e0 : trm (fr n) (bd' n) g = 0 := by unfold trm; rw [if_pos z]
            have := trm_ge (b := bd n) (g := g) (hf n)
            rw [e0] at hlt
            split at hlt <;> omega
        refine ⟨⟨by omega, ?_⟩, hg⟩
        by_cases hb : bd n < 0
        · exact Or.inl hb
        · right
          unfold lee at h1
          rcases Int.lt_or_le (bd' n) (bd n) with z | z
          · exact z
          · exfalso
            have : bd' n = bd n := by omega
            rw [this, if_neg hb] at hlt
            omega
theorem bset_nil {bd : Nat → Int} {n : Nat} : bset bd n = [] ↔ ∀ l, l < n → bd l < 0 := by
  constructor
  · intro h l hl
    rcases Int.lt_or_le (bd l) 0 with q | q
    · exact q
    · exfalso
      have : ((bd l, l) : Int × Nat) ∈ bset bd n := bset_mem.mpr ⟨hl, rfl, q⟩
      rw [h] at this
      cases this
  · intro h
    cases hb : bset bd n with
    | nil => rfl
    | cons x t =>
      exfalso
      have hx : x ∈ bset bd n := by rw [hb]; exact List.mem_cons_self
      have := bset_mem.mp hx
      have := h x.2 this.1
      omega
/-- the cost, told by gains -/
theorem cst_spec {fr bd : Nat → Int} {W : Int} {n : Nat} (hf : ∀ l, 1 ≤ fr l) (hW : 0 ≤ W) : (cst fr W bd n = -1 ∧ ∀ l, l < n → bd l < 0) ∨ (0 ≤ cst fr W bd n ∧ phi fr bd (cst fr W bd n) n ≤ W ∧ W < phi fr bd (cst fr W bd n + 1) n) := by
  by_cases hb : bset bd n = []
  · left
    refine ⟨?_, bset_nil.mp hb⟩
    unfold cst
    rw [hb]
    rfl
  · right
    obtain ⟨k1, k2, k3, k4⟩ := gre_all hf hW (bset_srt bd n) hb (fun y hy => (bset_mem.mp hy).2.2)
    unfold cst
    rw [if_neg (by omega)]
    rw [bset_ph] at k3 k4
    exact ⟨k2, k3, k4⟩
theorem cst_ge {fr bd : Nat → Int} {W : Int} {n : Nat} (hf : ∀ l, 1 ≤ fr l) (hW : 0 ≤ W) : -1 ≤ cst fr W bd n := by
  rcases cst_spec (bd := bd) (n := n) hf hW with h | h <;> omega
theorem cst_mono {fr bd bd' : Nat → Int} {W : Int} {n : Nat} (hf : ∀ l, 1 ≤ fr l) (hW : 0 ≤ W) (h : ∀ l, l < n → lee (bd' l) (bd l)) : lee (cst fr W bd' n) (cst fr W bd n) := by
  have hf0 : ∀ l, 0 ≤ fr l := fun l => by have := hf l; omega
  rcases cst_spec (bd := bd) (n := n) hf hW with ⟨e, _⟩ | ⟨k1, k2, k3⟩
  · left; omega
  · rcases cst_spec (bd := bd') (n := n) hf hW with ⟨e, hn⟩ | ⟨j1, j2, j3⟩
    · exfalso
      have hz : phi fr bd (cst fr W bd n + 1) n ≤ phi fr bd' (cst fr W bd n + 1) n := phi_mono_b hf0 n h
      have hz2 : ∀ g m, m ≤ n → phi fr bd' g m = 0 := by
        intro g m
        induction m with
        | zero => intro _; rfl
        | succ m ih => intro hm; unfold phi; rw [ih (by omega), if_pos (hn m (by omega))]; rfl
      rw [hz2 _ n (Nat.le_refl _)] at hz
      omega
    · right
      refine ⟨j1, ?_⟩
      rcases Int.lt_or_le (cst fr W bd n) (cst fr W bd' n) with q | q
      · exfalso
        have h1 : phi fr bd (cst fr W bd n + 1) n ≤ phi fr bd' (cst fr W bd n + 1) n := phi_mono_b hf0 n h
        have h2 : phi fr bd' (cst fr W bd n + 1) n ≤ phi fr bd' (cst fr W bd' n) n := phi_mono_g hf0 (by omega) n
        omega
      · exact q
theorem cst_local {fr bd bd' : Nat → Int} {W : Int} {n : Nat} (hf : ∀ l, 1 ≤ fr l) (hW : 0 ≤ W) (h : ∀ l, l < n → lee (bd' l) (bd l)) (hlt : ltt (cst fr W bd' n) (cst fr W bd n)) : ∃ l, l < n ∧ ltt (bd' l) (bd l) ∧ bd' l ≤ cst fr W bd' n := by
  have hf0 : ∀ l, 0 ≤ fr l := fun l => by have := hf l; omega
  rcases cst_spec (bd := bd') (n := n) hf hW with ⟨e, _⟩ | ⟨j1, j2, j3⟩
  · exact absurd hlt.1 (by omega)
  · have hd : phi fr bd (cst fr W bd' n + 1) n < phi fr bd' (cst fr W bd' n + 1) n := by
      rcases cst_spec (bd := bd) (n := n) hf hW with ⟨e, hn⟩ | ⟨k1, k2, k3⟩
      · have hz2 : ∀ g m, m ≤ n → phi fr bd g m = 0 := by
          intro g m
          induction m with
          | zero => intro _; rfl
          | succ m ih => intro hm; unfold phi; rw [ih (by omega), if_pos (hn m (by omega))]; rfl
        rw [hz2 _ n (Nat.le_refl _)]
        omega
      · have hlt2 : cst fr W bd' n < cst fr W bd n := by unfold ltt at hlt; omega
        have h2 : phi fr bd (cst fr W bd' n + 1) n ≤ phi fr bd (cst fr W bd n) n := phi_mono_g hf0 (by omega) n
        omega
    obtain ⟨l, h1, h2, h3⟩ := phi_diff hf0 n h hd
    exact ⟨l, h1, h2, by omega⟩
/-! ===== rounds come to an end ===== -/
noncomputable def cnt (P : Nat → Prop) : Nat → Nat
  | 0 => 0
  | n + 1 => cnt P n + @ite Nat (P n) (Classical.propDecidable _) 1 0
theorem cnt_bound (P : Nat → Prop) : ∀ n, cnt P n ≤ n := by
  intro n
  induction n with
  | zero => exact Nat.le_refl _
  | succ n ih => unfold cnt; split <;> omega
theorem cnt_le {P Q : Nat → Prop} : ∀ n, (∀ s, s < n → P s → Q s) → cnt P n ≤ cnt Q n := by
  intro n
  induction n with
  | zero => intro _; exact Nat.le_refl _
  | succ n ih =>
    intro h
    have i1 := ih (fun s hs => h s (by omega))
    have h1 := h n (by omega)
    unfold cnt
    by_cases hp : P n
    · rw [if_pos hp, if_pos (h1 hp)]; omega
    · rw [if_neg hp]; split <;> omega
theorem cnt_lt {P Q : Nat → Prop} : ∀ n, (∀ s, s < n → P s → Q s) → (∃ s, s < n ∧ Q s ∧ ¬ P s) → cnt P n < cnt Q n := by
  intro n
  induction n with
  | zero => intro _ ⟨s, hs, _⟩; exact absurd hs (Nat.not_lt_zero _)
  | succ n ih =>
    intro h ⟨s, hs, hq, hnp⟩
    have h1 := h n (by omega)
    by_cases hsn : s = n
    · subst hsn
      have i1 := cnt_le s (fun z hz => h z (by omega))
      unfold cnt
      rw [if_neg hnp, if_pos hq]; omega
    · have i1 := ih (fun z hz => h z (by omega)) ⟨s, by omega, hq, hnp⟩
      unfold cnt
      by_cases hp : P n
      · rw [if_pos hp, if_pos (h1 hp)]; omega
      · rw [if_neg hp]; split <;> omega
def itr (T : (Nat → Int) → Nat → Int) (c0 : Nat → Int) : Nat → Nat → Int
  | 0 => c0
  | r + 1 => T (itr T c0 r)
/-- the least of a non-empty set of stops -/
theorem least_of (P : Nat → Prop) (v : Nat → Int) : ∀ n, (∃ s, s < n ∧ P s) → ∃ q, q < n ∧ P q ∧ ∀ s, s < n → P s → v q ≤ v s := by
  intro n
  induction n with
  | zero => intro ⟨s, hs, _⟩; exact absurd hs (Nat.not_lt_zero _)
  | succ n ih =>
    intro ⟨s, hs, hP⟩
    by_cases hex : ∃ s, s < n ∧ P s
    · obtain ⟨q, hq, hPq, hmin⟩ := ih hex
      by_cases hn : P n ∧ v n < v q
      · refine ⟨n, by omega, hn.1, fun z hz hPz => ?_⟩
        by_cases hzn : z = n
        · subst hzn; exact Int.le_refl _
        · have := hmin z (by omega) hPz; omega
      · refine ⟨q, by omega, hPq, fun z hz hPz => ?_⟩
        by_cases hzn : z = n
        · subst hzn
          rcases Int.lt_or_le (v z) (v q) with a | a
          · exact absurd ⟨hPz, a⟩ hn
          · exact a
        · exact hmin z (by omega) hPz
    · have hsn : s = n := by
        rcases Nat.lt_or_ge s n with a | a
        · exact absurd ⟨s, a, hP⟩ hex
        · omega
      subst hsn
      refine ⟨s, by omega, hP, fun z hz hPz => ?_⟩
      by_cases hzn : z = s
      · subst hzn; exact Int.le_refl _
      · exact absurd ⟨z, by omega, hPz⟩ hex
theorem rounds_end {T : (Nat → Int) → Nat → Int} {c0 : Nat → Int} (h0 : ∀ s, -1 ≤ c0 s) (hge : ∀ c, (∀ s, -1 ≤ c s) → ∀ s, -1 ≤ T c s)
    (hmono : ∀ c c', (∀ s, -1 ≤ c s) → (∀ s, -1 ≤ c' s) → (∀ s, lee (c' s) (c s)) → ∀ s, lee (T c' s) (T c s))
    (hloc : ∀ c c', (∀ s, -1 ≤ c s) → (∀ s, -1 ≤ c' s) → (∀ s, lee (c' s) (c s)) → ∀ s, ltt (T c' s) (T c s) → ∃ q, q < 10 ∧ ltt (c' q) (c q) ∧ c' q + 100 ≤ T c' s)
    (hfirst : ∀ s, lee (T c0 s) (c0 s)) : ∃ r, r ≤ 10 ∧ ∀ s, s < 10 → itr T c0 (r + 1) s = itr T c0 r s := by
  have hC : ∀ r s, -1 ≤ itr T c0 r s := by
    intro r
    induction r with
    | zero => exact h0
    | succ r ih => exact hge _ ih
  have hdec : ∀ r s, lee (itr T c0 (r + 1) s) (itr T c0 r s) := by
    intro r
    induction r with
    | zero => exact hfirst
    | succ r ih => exact hmono _ _ (hC r) (hC (r + 1)) ih
  have hdec2 : ∀ r k s, lee (itr T c0 (r + k) s) (itr T c0 r s) := by
    intro r k s
    induction k with
    | zero => exact lee_refl _
    | succ k ih => exact lee_trans (hdec (r + k) s) ih
  have hstep : ∀ r s, ltt (itr T c0 (r + 2) s) (itr T c0 (r + 1) s) → ∃ q, q < 10 ∧ ltt (itr T c0 (r + 1) q) (itr T c0 r q) ∧ itr T c0 (r + 1) q + 100 ≤ itr T c0 (r + 2) s :=
    fun r s h => hloc _ _ (hC r) (hC (r + 1)) (hdec r) s h
  -- a stop that changes at r and no more
  have hlast : ∀ r, (∃ s, s < 10 ∧ ltt (itr T c0 (r + 1) s) (itr T c0 r s)) → ∃ q, q < 10 ∧ ltt (itr T c0 (r + 1) q) (itr T c0 r q) ∧ ∀ k, ¬ ltt (itr T c0 (r + 1 + k + 1) q) (itr T c0 (r + 1 + k) q) := by
    intro r hex
    obtain ⟨q, hq, hch, hmin⟩ := least_of (fun s => ltt (itr T c0 (r + 1) s) (itr T c0 r s)) (itr T c0 (r + 1)) 10 hex
    have hgrow : ∀ k s, ltt (itr T c0 (r + 1 + k + 1) s) (itr T c0 (r + 1 + k) s) → itr T c0 (r + 1) q + 100 ≤ itr T c0 (r + 1 + k + 1) s := by
      intro k
      induction k with
      | zero =>
        intro s hs
        obtain ⟨z, hz, h1, h2⟩ := hstep r s hs
        have := hmin z hz h1
        have h3 : itr T c0 (r + 1) z + 100 ≤ itr T c0 (r + 1 + 0 + 1) s := h2
        omega
      | succ k ih =>
        intro s hs
        obtain ⟨z, hz, h1, h2⟩ := hstep (r + 1 + k) s hs
        have := ih z h1
        have h3 : itr T c0 (r + 1 + k + 1) z + 100 ≤ itr T c0 (r + 1 + (k + 1) + 1) s := h2
        omega
    refine ⟨q, hq, hch, fun k hk => ?_⟩
    have h1 := hgrow k q hk
    have h2 := hdec2 (r + 1) k q
    have h3 : 0 ≤ itr T c0 (r + 1) q := hch.1
    unfold lee at h2
    unfold ltt at hk
    omega
  -- count the stops that will still change
  have hcount : ∀ k, (∀ r, r < k → ∃ s, s < 10 ∧ ltt (itr T c0 (r + 1) s) (itr T c0 r s)) → cnt (fun s => ∃ j, ltt (itr T c0 (k + j + 1) s) (itr T c0 (k + j) s)) 10 + k ≤ 10 := by
    intro k
    induction k with
    | zero => intro _; have := cnt_bound (fun s => ∃ j, ltt (itr T c0 (0 + j + 1) s) (itr T c0 (0 + j) s)) 10; omega
    | succ k ih =>
      intro h
      have i1 := ih (fun r hr => h r (by omega))
      obtain ⟨q, hq, hch, hno⟩ := hlast k (h k (by omega))
      have : cnt (fun s => ∃ j, ltt (itr T c0 (k + 1 + j + 1) s) (itr T c0 (k + 1 + j) s)) 10 < cnt (fun s => ∃ j, ltt (itr T c0 (k + j + 1) s) (itr T c0 (k + j) s)) 10 := by
        refine cnt_lt 10 (fun s _ ⟨j, hj⟩ => ⟨j + 1, ?_⟩) ⟨q, hq, ⟨0, hch⟩, fun ⟨j, hj⟩ => hno j hj⟩
        rw [show k + (j + 1) = k + 1 + j by omega]
        exact hj
      omega
  by_cases hall : ∀ r, r < 11 → ∃ s, s < 10 ∧ ltt (itr T c0 (r + 1) s) (itr T c0 r s)
  · have := hcount 11 hall
    omega
  · have hex : ∃ r, r < 11 ∧ ¬ ∃ s, s < 10 ∧ ltt (itr T c0 (r + 1) s) (itr T c0 r s) := by
      refine Classical.byContradiction (fun hc => hall (fun r hr => ?_))
      exact Classical.byContradiction (fun hs => hc ⟨r, hr, hs⟩)
    obtain ⟨r, hr, hs⟩ := hex
    refine ⟨r, by omega, fun s hs10 => ?_⟩
    rcases lee_or (hdec r s) (hC (r + 1) s) (hC r s) with e | e
    · exact e
    · exact absurd ⟨s, hs10, e⟩ hs
