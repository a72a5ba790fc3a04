/-! ===== how the class's places and the reference's hold one and the same V ===== -/
def PL (σ : Mem) (l : Nat) : Nat := pl (σ (pl (σ 136 0)) l)
def QL (σ : Mem) (l : Nat) : Nat := pl (σ (pl (σ 1 2)) l)
abbrev isL (P : Nat) : Prop := (4 ≤ P ∧ P < 136 ∧ (P - 4) % 11 = 0) ∨ (138 ≤ P ∧ P < 270 ∧ (P - 138) % 11 = 0)
def Tab (σ : Mem) : Prop := ((pl (σ 136 0) = 3 ∧ pl (σ 1 2) = 137) ∨ (pl (σ 136 0) = 137 ∧ pl (σ 1 2) = 3)) ∧ (∀ l, l < 12 → isL (PL σ l)) ∧ (∀ l, l < 12 → isL (QL σ l)) ∧ (∀ l m, l < 12 → m < 12 → PL σ l = PL σ m → l = m) ∧ (∀ l m, l < 12 → m < 12 → QL σ l = QL σ m → l = m) ∧ (∀ l m, l < 12 → m < 12 → PL σ l ≠ QL σ m)
def LnAt (V σ : Mem) (l P : Nat) : Prop := σ P 0 = V 329 l ∧ σ P 1 = V 330 l ∧ σ P 2 = V 335 l ∧ σ P 3 = V 336 l ∧ σ P 4 = V 337 l ∧ (∀ p, p < ln V l → σ (P + 1) p = V 331 (8 * l + p)) ∧ (∀ p, p + 1 < ln V l → σ (P + 2) p = V 332 (8 * l + p) ∧ σ (P + 3) p = V 333 (8 * l + p) ∧ σ (P + 4) p = V 334 (8 * l + p))
def Cls (V σ : Mem) : Prop := Tab σ ∧ σ 136 1 = V 328 9 ∧ σ 136 3 = V 328 10 ∧ σ 136 4 = V 328 11 ∧ σ 136 5 = V 328 12 ∧ σ 136 6 = V 328 13 ∧ (∀ s, s < 10 → σ (283 + 4 * s) 0 = V 338 s ∧ σ (283 + 4 * s) 1 = V 339 s) ∧ (∀ l, l < nn V → LnAt V σ l (PL σ l))
def Ref (V σ : Mem) : Prop := (∀ j, j = 9 ∨ j = 10 ∨ j = 11 ∨ j = 12 ∨ j = 13 ∨ j = 37 → σ 328 j = V 328 j) ∧ (∀ k j, 329 ≤ k → k ≤ 339 ∧ k ≠ 338 → σ k j = V k j)
/-- where the class computes: nothing that lasts lies there -/
abbrev scrC (k j : Nat) : Prop := (k = 136 ∧ 7 ≤ j) ∨ k = 271 ∨ (4 ≤ k ∧ k < 136 ∧ 5 ≤ (k - 4) % 11) ∨ (138 ≤ k ∧ k < 270 ∧ 5 ≤ (k - 138) % 11) ∨ (283 ≤ k ∧ k < 323 ∧ ((k - 283) % 4 ≠ 0 ∨ 2 ≤ j)) ∨ (325 ≤ k ∧ k ≤ 327)
abbrev scrR (k j : Nat) : Prop := (k = 328 ∧ (j = 20 ∨ j = 36 ∨ j = 40 ∨ j = 46 ∨ j = 47 ∨ j = 49)) ∨ (346 ≤ k ∧ k ≤ 360)
def CP (σ σ' : Mem) : Prop := ∀ k j, scrC k j ∨ σ' k j = σ k j
def RP (σ σ' : Mem) : Prop := ∀ k j, scrR k j ∨ σ' k j = σ k j
section CLS
variable {V σ σ' σ'' : Mem} {l P k j : Nat} {v : Int}
theorem CP.refl (σ : Mem) : CP σ σ := fun _ _ => Or.inr rfl
theorem RP.refl (σ : Mem) : RP σ σ := fun _ _ => Or.inr rfl
theorem CP.trans (h : CP σ σ') (g : CP σ' σ'') : CP σ σ'' := by
  intro k j
  rcases h k j with a | a
  · exact Or.inl a
  · rcases g k j with b | b
    · exact Or.inl b
    · exact Or.inr (b.trans a)
theorem RP.trans (h : RP σ σ') (g : RP σ' σ'') : RP σ σ'' := by
  intro k j
  rcases h k j with a | a
  · exact Or.inl a
  · rcases g k j with b | b
    · exact Or.inl b
    · exact Or.inr (b.trans a)
theorem CP.set (h : CP σ σ') (hs : scrC k j) : CP σ (mset σ' k j v) := by
  intro a b
  by_cases e : a = k ∧ b = j
  · rw [e.1, e.2]; exact Or.inl hs
  · rw [mset_eq, if_neg e]; exact h a b
theorem RP.set (h : RP σ σ') (hs : scrR k j) : RP σ (mset σ' k j v) := by
  intro a b
  by_cases e : a = k ∧ b = j
  · rw [e.1, e.2]; exact Or.inl hs
  · rw [mset_eq, if_neg e]; exact h a b
theorem CP.at (h : CP σ σ') (hs : ¬ scrC k j) : σ' k j = σ k j := (h k j).resolve_left hs
theorem RP.at (h : RP σ σ') (hs : ¬ scrR k j) : σ' k j = σ k j := (h k j).resolve_left hs
theorem Tab.isL (h : Tab σ) (hl : l < 12) : isL (PL σ l) := h.2.1 l hl
theorem tab_mv (h : Tab σ) (e1 : σ' 136 0 = σ 136 0) (e2 : σ' 1 2 = σ 1 2) (e3 : ∀ j, σ' 3 j = σ 3 j) (e4 : ∀ j, σ' 137 j = σ 137 j) : Tab σ' ∧ (∀ l, PL σ' l = PL σ l) ∧ (∀ l, QL σ' l = QL σ l) := by
  have a1 : ∀ l, PL σ' l = PL σ l := by
    intro l; unfold PL; rw [e1]
    rcases h.1 with g | g
    · rw [g.1, e3]
    · rw [g.1, e4]
  have a2 : ∀ l, QL σ' l = QL σ l := by
    intro l; unfold QL; rw [e2]
    rcases h.1 with g | g
    · rw [g.2, e4]
    · rw [g.2, e3]
  refine ⟨?_, a1, a2⟩
  unfold Tab
  rw [e1, e2]
  refine ⟨h.1, ?_, ?_, ?_, ?_, ?_⟩
  · intro l hl; rw [a1]; exact h.2.1 l hl
  · intro l hl; rw [a2]; exact h.2.2.1 l hl
  · intro l m hl hm; rw [a1, a1]; exact h.2.2.2.1 l m hl hm
  · intro l m hl hm; rw [a2, a2]; exact h.2.2.2.2.1 l m hl hm
  · intro l m hl hm; rw [a1, a2]; exact h.2.2.2.2.2 l m hl hm
theorem CP.tab (h : Tab σ) (g : CP σ σ') : Tab σ' ∧ (∀ l, PL σ' l = PL σ l) ∧ (∀ l, QL σ' l = QL σ l) := tab_mv h (g.at (by omega)) (g.at (by omega)) (fun j => g.at (by omega)) (fun j => g.at (by omega))
theorem ln_mv (h : LnAt V σ l P) (hP : isL P) (g : ∀ k j, P ≤ k → k ≤ P + 4 → σ' k j = σ k j) : LnAt V σ' l P := by
  obtain ⟨h1, h2, h3, h4, h5, h6, h7⟩ := h
  refine ⟨?_, ?_, ?_, ?_, ?_, fun p hp => ?_, fun p hp => ?_⟩
  · rw [g P 0 (by omega) (by omega)]; exact h1
  · rw [g P 1 (by omega) (by omega)]; exact h2
  · rw [g P 2 (by omega) (by omega)]; exact h3
  · rw [g P 3 (by omega) (by omega)]; exact h4
  · rw [g P 4 (by omega) (by omega)]; exact h5
  · rw [g (P + 1) p (by omega) (by omega)]; exact h6 p hp
  · rw [g (P + 2) p (by omega) (by omega), g (P + 3) p (by omega) (by omega), g (P + 4) p (by omega) (by omega)]; exact h7 p hp
theorem CP.ln (g : CP σ σ') (h : LnAt V σ l P) (hP : isL P) : LnAt V σ' l P := ln_mv h hP (fun k j h1 h2 => g.at (by omega))
theorem Cls.mv (h : Cls V σ) (ok : OkN V) (g : CP σ σ') : Cls V σ' := by
  obtain ⟨h1, h2, h3, h4, h5, h6, h7, h8⟩ := h
  obtain ⟨t1, t2, t3⟩ := g.tab h1
  refine ⟨t1, ?_, ?_, ?_, ?_, ?_, fun s hs => ?_, fun l hl => ?_⟩
  · rw [g.at (by omega)]; exact h2
  · rw [g.at (by omega)]; exact h3
  · rw [g.at (by omega)]; exact h4
  · rw [g.at (by omega)]; exact h5
  · rw [g.at (by omega)]; exact h6
  · rw [g.at (by omega), g.at (by omega)]; exact h7 s hs
  · rw [t2]; exact g.ln (h8 l hl) (h1.2.1 l (by have := ok.n; omega))
theorem Ref.mv (h : Ref V σ) (g : RP σ σ') : Ref V σ' := by
  refine ⟨fun j hj => ?_, fun k j h1 h2 => ?_⟩
  · rw [g.at (by omega)]; exact h.1 j hj
  · rw [g.at (by omega)]; exact h.2 k j h1 h2
theorem Ref.mvC (h : Ref V σ) (g : CP σ σ') : Ref V σ' := by
  refine ⟨fun j hj => ?_, fun k j h1 h2 => ?_⟩
  · rw [g.at (by omega)]; exact h.1 j hj
  · rw [g.at (by omega)]; exact h.2 k j h1 h2
theorem Cls.mvR (h : Cls V σ) (ok : OkN V) (g : RP σ σ') : Cls V σ' := by
  obtain ⟨h1, h2, h3, h4, h5, h6, h7, h8⟩ := h
  obtain ⟨t1, t2, t3⟩ := tab_mv h1 (σ' := σ') (g.at (by omega)) (g.at (by omega)) (fun j => g.at (by omega)) (fun j => g.at (by omega))
  refine ⟨t1, ?_, ?_, ?_, ?_, ?_, fun s hs => ?_, fun l hl => ?_⟩
  · rw [g.at (by omega)]; exact h2
  · rw [g.at (by omega)]; exact h3
  · rw [g.at (by omega)]; exact h4
  · rw [g.at (by omega)]; exact h5
  · rw [g.at (by omega)]; exact h6
  · rw [g.at (by omega), g.at (by omega)]; exact h7 s hs
  · rw [t2]
    have hP := h1.2.1 l (by have := ok.n; omega)
    exact ln_mv (h8 l hl) hP (fun k j h1 h2 => g.at (by omega))
theorem Cls.isL (h : Cls V σ) (ok : OkN V) (hl : l < nn V) : isL (PL σ l) := h.1.2.1 l (by have := ok.n; omega)
theorem Cls.ln (h : Cls V σ) (hl : l < nn V) : LnAt V σ l (PL σ l) := h.2.2.2.2.2.2.2 l hl
theorem Cls.inj {m : Nat} (h : Cls V σ) (ok : OkN V) (hl : l < nn V) (hm : m < nn V) (e : PL σ l = PL σ m) : l = m := h.1.2.2.2.1 l m (by have := ok.n; omega) (by have := ok.n; omega) e
theorem Cls.apart {m : Nat} (h : Cls V σ) (ok : OkN V) (hl : l < nn V) (hm : m < nn V) (e : l ≠ m) : PL σ l + 10 < PL σ m ∨ PL σ m + 10 < PL σ l := by
  have h1 := h.isL ok hl
  have h2 := h.isL ok hm
  have h3 : PL σ l ≠ PL σ m := fun g => e (h.inj ok hl hm g)
  omega
end CLS
