/-! ===== lists in places ===== -/
def gtL (L : List (Int × Nat)) (i : Nat) : Int × Nat := (L[i]?).getD (0, 0)
theorem gtL_cons0 {x : Int × Nat} {L : List (Int × Nat)} : gtL (x :: L) 0 = x := rfl
theorem gtL_consS {x : Int × Nat} {L : List (Int × Nat)} {i : Nat} : gtL (x :: L) (i + 1) = gtL L i := by unfold gtL; rw [List.getElem?_cons_succ]
theorem gtL_mem {L : List (Int × Nat)} {i : Nat} (h : i < L.length) : gtL L i ∈ L := by
  unfold gtL; rw [List.getElem?_eq_getElem h]; exact List.getElem_mem h
theorem mem_gtL {L : List (Int × Nat)} {x : Int × Nat} (h : x ∈ L) : ∃ i, i < L.length ∧ gtL L i = x := by
  obtain ⟨i, hi, e⟩ := List.getElem_of_mem h
  exact ⟨i, hi, by unfold gtL; rw [List.getElem?_eq_getElem hi]; exact e⟩
theorem drop_at {L : List (Int × Nat)} {i : Nat} (h : i < L.length) : L.drop i = gtL L i :: L.drop (i + 1) := by
  rw [List.drop_eq_getElem_cons h]; unfold gtL; rw [List.getElem?_eq_getElem h]; rfl
theorem srt_le {L : List (Int × Nat)} (h : Srt L) : ∀ {i j}, i ≤ j → j < L.length → (gtL L i).1 ≤ (gtL L j).1 := by
  induction L with
  | nil => intro i j _ h; simp at h
  | cons x t ih =>
    intro i j hij hj
    simp only [List.length_cons] at hj
    cases j with
    | zero => rw [show i = 0 by omega]; exact Int.le_refl _
    | succ j =>
      rw [gtL_consS]
      cases i with
      | zero => rw [gtL_cons0]; exact h.1 _ (gtL_mem (by omega))
      | succ i => rw [gtL_consS]; exact ih h.2 (by omega) (by omega)
theorem insB_len {x : Int × Nat} : ∀ L : List (Int × Nat), (insB x L).length = L.length + 1 := by
  intro L
  induction L with
  | nil => rfl
  | cons y t ih => unfold insB; split <;> simp [ih]
theorem insB_at {x : Int × Nat} : ∀ (L : List (Int × Nat)) (k : Nat), k ≤ L.length → (∀ i, i < k → (gtL L i).1 ≤ x.1) → (∀ i, k ≤ i → i < L.length → x.1 < (gtL L i).1) → ∀ i, gtL (insB x L) i = if i < k then gtL L i else if i = k then x else gtL L (i - 1) := by
  intro L
  induction L with
  | nil =>
    intro k hk _ _ i
    have hk0 : k = 0 := by simpa using hk
    subst hk0
    unfold insB
    rw [if_neg (by omega)]
    cases i with
    | zero => rfl
    | succ i => rw [gtL_consS, if_neg (by omega)]; rfl
  | cons y t ih =>
    intro k hk h1 h2 i
    simp only [List.length_cons] at hk h2
    unfold insB
    cases k with
    | zero =>
      have := h2 0 (by omega) (by omega)
      rw [gtL_cons0] at this
      rw [if_pos this, if_neg (by omega)]
      cases i with
      | zero => rfl
      | succ i => rw [gtL_consS, if_neg (by omega)]; rfl
    | succ k =>
      have := h1 0 (by omega)
      rw [gtL_cons0] at this
      rw [if_neg (by omega)]
      cases i with
      | zero => rw [if_pos (by omega)]; rfl
      | succ i =>
        rw [gtL_consS, ih k (by omega) (fun i hi => by have := h1 (i + 1) (by omega); rw [gtL_consS] at this; exact this) (fun i h3 h4 => by have := h2 (i + 1) (by omega) (by omega); rw [gtL_consS] at this; exact this)]
        by_cases a : i < k
        · rw [if_pos a, if_pos (by omega), gtL_consS]
        · rw [if_neg a, if_neg (show ¬ i + 1 < k + 1 by omega)]
          by_cases b : i = k
          · rw [if_pos b, if_pos (show i + 1 = k + 1 by omega)]
          · rw [if_neg b, if_neg (show ¬ i + 1 = k + 1 by omega)]
            rw [show i + 1 - 1 = (i - 1) + 1 by omega, gtL_consS]
theorem bset_len (bd : Nat → Int) : ∀ n, (bset bd n).length ≤ n := by
  intro n
  induction n with
  | zero => exact Nat.le_refl _
  | succ n ih => unfold bset; split; omega; rw [insB_len]; omega
theorem downE {Q : Int → Mem → Prop} {f : Nat → Int → Mem → PR} (J : Nat → Mem → Prop) (h0 : ∀ n σ, J 0 σ → wp (f (n + 1) 0 σ) Q)
    (hs : ∀ n i σ, J (i + 1) σ → (∀ σ', J i σ' → wp (f n (((i + 1 : Nat) : Int) + (-1)) σ') Q) → wp (f (n + 1) ((i + 1 : Nat) : Int) σ) Q) {i fuel : Nat} {σ : Mem} (hJ : J i σ) (hf : i < fuel := by omega) : wp (f fuel (i : Int) σ) Q := by
  induction fuel generalizing i σ with
  | zero => omega
  | succ n ih =>
    cases i with
    | zero => exact h0 n σ hJ
    | succ i =>
      refine hs n i σ hJ (fun σ' h' => ?_)
      rw [show ((i + 1 : Nat) : Int) + (-1) = (i : Int) by omega]
      exact ih h' (by omega)
/-! ===== the class: the offers of a stop ===== -/
section COFFER
variable {V σ : Mem} {c : Nat → Int} {l P p s fu : Nat}
def OffS (V σ : Mem) (s : Nat) (L : List (Int × Nat)) : Prop := σ (283 + 4 * s) 3 = (L.length : Int) ∧ ∀ i, i < L.length → σ (283 + 4 * s + 1) i = ((gtL L i).2 : Int) ∧ σ (283 + 4 * s + 2) i = (plc V (gtL L i).2 s : Int) ∧ σ (283 + 4 * s + 3) i = (gtL L i).1
theorem c_offer {L : List (Int × Nat)} {b : Int} (hfu : 1000 < fu) (hs : s < 10) (hS : Srt L) (hL : L.length < 12) (hO : OffS V σ s L) (hbd : ∀ x ∈ L, -1 ≤ x.1 ∧ x.1 ≤ 30000000) (hb : -1 ≤ b ∧ b ≤ 30000000) (hp : plc V l s = p) :
    wp (fX4_offer fu (283 + 4 * s) (l : Int) (p : Int) b σ) (fun _ σ' => OffS V σ' s (insB (b, l) L) ∧ ∀ k j, (k = 283 + 4 * s ∧ j = 3) ∨ k = 283 + 4 * s + 1 ∨ k = 283 + 4 * s + 2 ∨ k = 283 + 4 * s + 3 ∨ σ' k j = σ k j) := by
  unfold fX4_offer
  have h3 := hO.1
  refine iLt (fun _ => ?_) (fun h => by omega)
  refine wp_lt ?_
  rw [h3]
  have hmain : ∀ (k : Nat) (s' : Mem), k ≤ L.length → (k = 0 ∨ (gtL L (k - 1)).1 ≤ b) → (∀ i, k ≤ i → i < L.length → b < (gtL L i).1) →
      (∀ i, i < k → s' (283 + 4 * s + 1) i = ((gtL L i).2 : Int) ∧ s' (283 + 4 * s + 2) i = (plc V (gtL L i).2 s : Int) ∧ s' (283 + 4 * s + 3) i = (gtL L i).1) →
      (∀ i, k ≤ i → i < L.length → s' (283 + 4 * s + 1) (i + 1) = ((gtL L i).2 : Int) ∧ s' (283 + 4 * s + 2) (i + 1) = (plc V (gtL L i).2 s : Int) ∧ s' (283 + 4 * s + 3) (i + 1) = (gtL L i).1) →
      (∀ k j, k = 283 + 4 * s + 1 ∨ k = 283 + 4 * s + 2 ∨ k = 283 + 4 * s + 3 ∨ s' k j = σ k j) →
      wp (wrI s' (283 + 4 * s + 1) 12 (k : Int) (l : Int) (fun s8 => wrI s8 (283 + 4 * s + 2) 12 (k : Int) (p : Int) (fun s9 => wrI s9 (283 + 4 * s + 3) 12 (k : Int) b (fun s10 => stf s10 (283 + 4 * s) 3 ((s10 (283 + 4 * s) 3) + 1) (fun s11 => some (0, s11)))))) (fun _ σ' => OffS V σ' s (insB (b, l) L) ∧ ∀ k j, (k = 283 + 4 * s ∧ j = 3) ∨ k = 283 + 4 * s + 1 ∨ k = 283 + 4 * s + 2 ∨ k = 283 + 4 * s + 3 ∨ σ' k j = σ k j) := by
    intro k s' hk hk1 hk2 ha hb2 hfr
    refine wI k rfl (by omega) ?_
    refine wI k rfl (by omega) ?_
    refine wI k rfl (by omega) ?_
    refine wp_stf ?_
    have hat := insB_at (x := (b, l)) L k hk (fun i hi => by
      have := srt_le hS (show i ≤ k - 1 by omega) (by omega)
      have : (gtL L (k - 1)).1 ≤ b := by rcases hk1 with g | g; omega; exact g
      show (gtL L i).1 ≤ b
      omega) (fun i h1 h2 => hk2 i h1 h2)
    refine wp_some ⟨⟨?_, fun i hi => ?_⟩, fun x j => ?_⟩
    · rw [ms_eq, ms_k (by omega), ms_k (by omega), ms_k (by omega), insB_len]
      have := hfr (283 + 4 * s) 3
      omega
    · rw [insB_len] at hi
      rw [hat i]
      rw [ms_k (show 283 + 4 * s + 1 ≠ 283 + 4 * s by omega), ms_k (show 283 + 4 * s + 2 ≠ 283 + 4 * s by omega), ms_k (show 283 + 4 * s + 3 ≠ 283 + 4 * s by omega)]
      rw [ms_k (show 283 + 4 * s + 1 ≠ 283 + 4 * s + 3 by omega), ms_k (show 283 + 4 * s + 1 ≠ 283 + 4 * s + 2 by omega), ms_k (show 283 + 4 * s + 2 ≠ 283 + 4 * s + 3 by omega)]
      by_cases e1 : i = k
      · rw [e1, ms_eq, ms_eq, ms_eq, if_neg (by omega), if_pos rfl]
        exact ⟨rfl, by rw [← hp], rfl⟩
      · rw [ms_j e1, ms_j e1, ms_k (by omega), ms_j e1, ms_k (by omega), ms_k (by omega)]
        by_cases e2 : i < k
        · rw [if_pos e2]; exact ha i e2
        · rw [if_neg e2, if_neg e1]
          have := hb2 (i - 1) (by omega) (by omega)
          rw [show i - 1 + 1 = i by omega] at this
          exact this
    · by_cases e0 : x = 283 + 4 * s ∧ j = 3
      · exact Or.inl e0
      · right
        by_cases e1 : x = 283 + 4 * s + 1
        · exact Or.inl e1
        · by_cases e2 : x = 283 + 4 * s + 2
          · exact Or.inr (Or.inl e2)
          · by_cases e3 : x = 283 + 4 * s + 3
            · exact Or.inr (Or.inr (Or.inl e3))
            · rw [mset_eq, if_neg e0, ms_k e3, ms_k e2, ms_k e1]; exact hfr x j
  refine downE (f := fX4_offer_L16 fu (283 + 4 * s) (l : Int) (p : Int) b _) (fun k s' => k ≤ L.length ∧ (∀ i, k ≤ i → i < L.length → b < (gtL L i).1) ∧
      (∀ i, i < k → s' (283 + 4 * s + 1) i = ((gtL L i).2 : Int) ∧ s' (283 + 4 * s + 2) i = (plc V (gtL L i).2 s : Int) ∧ s' (283 + 4 * s + 3) i = (gtL L i).1) ∧
      (∀ i, k ≤ i → i < L.length → s' (283 + 4 * s + 1) (i + 1) = ((gtL L i).2 : Int) ∧ s' (283 + 4 * s + 2) (i + 1) = (plc V (gtL L i).2 s : Int) ∧ s' (283 + 4 * s + 3) (i + 1) = (gtL L i).1) ∧
      (∀ k j, k = 283 + 4 * s + 1 ∨ k = 283 + 4 * s + 2 ∨ k = 283 + 4 * s + 3 ∨ s' k j = σ k j)) ?_ ?_ (i := L.length) ?_ (by omega)
  · intro n s' ⟨j1, j2, j3, j4, j5⟩
    rw [fX4_offer_L16]
    refine iLe0 (fun _ => ?_) (fun h => by omega)
    exact hmain 0 s' (by omega) (Or.inl rfl) j2 j3 j4 j5
  · intro n k s' ⟨j1, j2, j3, j4, j5⟩ hrec
    have hLk := hbd _ (gtL_mem (L := L) (i := k) (by omega))
    rw [fX4_offer_L16]
    refine iLe0 (fun h => by omega) (fun _ => ?_)
    refine rI k (by omega) (by omega) ?_
    rw [(j3 k (by omega)).2.2]
    refine iLe (fun h => ?_) (fun h => ?_)
    · exact hmain (k + 1) s' (by omega) (Or.inr (by rw [Nat.add_sub_cancel]; exact h)) j2 j3 j4 j5
    · refine rI k (by omega) (by omega) ?_
      refine wI (k + 1) rfl (by omega) ?_
      refine rI k (by omega) (by omega) ?_
      refine wI (k + 1) rfl (by omega) ?_
      refine rI k (by omega) (by omega) ?_
      refine wI (k + 1) rfl (by omega) ?_
      have g := j3 k (by omega)
      refine hrec _ ⟨by omega, fun i h1 h2 => ?_, fun i hi => ?_, fun i h1 h2 => ?_, fun x j => ?_⟩
      · by_cases e : i = k
        · rw [e]; exact h
        · exact j2 i (by omega) h2
      · simp (disch := omega) only [ms_j]
        exact j3 i (by omega)
      · by_cases e : i = k
        · rw [e]
          simp (disch := omega) only [ms_k, ms_eq]
          exact g
        · simp (disch := omega) only [ms_j]
          exact j4 i (by omega) h2
      · by_cases e1 : x = 283 + 4 * s + 1
        · exact Or.inl e1
        · by_cases e2 : x = 283 + 4 * s + 2
          · exact Or.inr (Or.inl e2)
          · by_cases e3 : x = 283 + 4 * s + 3
            · exact Or.inr (Or.inr (Or.inl e3))
            · rw [ms_k e3, ms_k e2, ms_k e1]; exact j5 x j
  · exact ⟨Nat.le_refl _, fun i h1 h2 => by omega, hO.2, fun i h1 h2 => by omega, fun k j => Or.inr (Or.inr (Or.inr rfl))⟩
end COFFER
