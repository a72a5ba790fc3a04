/-! ===== the stops by falling cost, both sides ===== -/
section ORDER
variable {V σ : Mem} {c : Nat → Int} {l P p s fu : Nat}
def oky (V : Mem) (c : Nat → Int) (s : Nat) : Int := if s = gl V ∨ c s < 0 then -1 else 30000000 - c s
def odk (V : Mem) (c : Nat → Int) (k : Nat) : List (Int × Nat) := bset (oky V c) k
def od (V : Mem) (c : Nat → Int) : List (Int × Nat) := odk V c 10
theorem odk_mem {k : Nat} {x : Int × Nat} (hb : ∀ s, -1 ≤ c s ∧ c s ≤ 20000000) (h : x ∈ odk V c k) : x.2 < k ∧ x.1 = 30000000 - c x.2 ∧ x.2 ≠ gl V ∧ 0 ≤ c x.2 := by
  have h1 := bset_mem.mp h
  have h2 := hb x.2
  unfold oky at h1
  by_cases g : x.2 = gl V ∨ c x.2 < 0
  · rw [if_pos g] at h1; omega
  · rw [if_neg g] at h1; omega
theorem odk_len {k : Nat} : (odk V c k).length ≤ k := bset_len _ _
theorem odk_next (hb : ∀ s, -1 ≤ c s ∧ c s ≤ 20000000) (k : Nat) : odk V c (k + 1) = if k = gl V ∨ c k < 0 then odk V c k else insB (30000000 - c k, k) (odk V c k) := by
  have h2 := hb k
  unfold odk
  simp only [bset]
  unfold oky
  by_cases g : k = gl V ∨ c k < 0
  · rw [if_pos g, if_pos g, if_pos (by omega)]
  · rw [if_neg g, if_neg g, if_neg (by omega)]
/-- the insertion, wherever the order lies: at the place A; x: how many there are -/
theorem ord_ins {L : List (Int × Nat)} {A i : Nat} {s' σ' : Mem} (hS : Srt L) (hL : L.length < 10) {k : Nat} (hk : k ≤ L.length) (hk1 : k = 0 ∨ (gtL L (k - 1)).1 ≤ 30000000 - c i) (hk2 : ∀ j, k ≤ j → j < L.length → 30000000 - c i < (gtL L j).1)
    (ha : ∀ j, j < k → s' A j = ((gtL L j).2 : Int)) (hb2 : ∀ j, k ≤ j → j < L.length → s' A (j + 1) = ((gtL L j).2 : Int)) (e : ∀ j, σ' A j = mset s' A k (i : Int) A j) :
    ∀ j, j < (insB (30000000 - c i, i) L).length → σ' A j = ((gtL (insB (30000000 - c i, i) L) j).2 : Int) := by
  have hat := insB_at (x := (30000000 - c i, i)) L k hk (fun j hj => by
    have := srt_le hS (show j ≤ k - 1 by omega) (by omega)
    have : (gtL L (k - 1)).1 ≤ 30000000 - c i := by rcases hk1 with g | g; omega; exact g
    show (gtL L j).1 ≤ 30000000 - c i
    omega) (fun j h1 h2 => hk2 j h1 h2)
  intro j hj
  rw [insB_len] at hj
  rw [hat j, e j]
  by_cases e1 : j = k
  · rw [e1, ms_eq, if_neg (by omega), if_pos rfl]
  · rw [ms_j e1]
    by_cases e2 : j < k
    · rw [if_pos e2]; exact ha j e2
    · rw [if_neg e2, if_neg e1]
      have := hb2 (j - 1) (by omega) (by omega)
      rw [show j - 1 + 1 = j by omega] at this
      exact this
def OrdC (V : Mem) (c : Nat → Int) (σ : Mem) : Prop := σ 136 11 = ((od V c).length : Int) ∧ ∀ i, i < (od V c).length → σ 271 i = ((gtL (od V c) i).2 : Int)
def OrdR (V : Mem) (c : Nat → Int) (σ : Mem) : Prop := σ 328 40 = ((od V c).length : Int) ∧ ∀ i, i < (od V c).length → σ 354 i = ((gtL (od V c) i).2 : Int)
theorem c_order (ok : OkN V) (hfu : 1000 < fu) (hg : σ 136 4 = V 328 11) (hb : ∀ s, -1 ≤ c s ∧ c s ≤ 20000000) (hc : ∀ s, s < 10 → σ (283 + 4 * s) 2 = c s) : wp (fX2_orderStops fu σ) (fun _ σ' => OrdC V c σ' ∧ ∀ k j, k = 271 ∨ (k = 136 ∧ j = 11) ∨ σ' k j = σ k j) := by
  have hgl := ok.go
  unfold fX2_orderStops
  refine wp_stf ?_
  refine for1 (f := fX2_orderStops_L7 fu _) 10 (fun i s2 => s2 136 11 = ((odk V c i).length : Int) ∧ (∀ j, j < (odk V c i).length → s2 271 j = ((gtL (odk V c i) j).2 : Int)) ∧ ∀ k j, k = 271 ∨ (k = 136 ∧ j = 11) ∨ s2 k j = σ k j) ?_ ?_ (i := 0) ⟨by rw [ms_eq]; rfl, fun j hj => by simp [odk, bset] at hj, fun k j => ?_⟩
  · intro n i s2 hi ⟨j1, j2, j3⟩ hrec
    have hnx := odk_next (V := V) hb i
    have hlen := odk_len (V := V) (c := c) (k := i)
    have hbi := hb i
    have e4 : s2 136 4 = V 328 11 := by rw [← hg]; have := j3 136 4; omega
    have ec : ∀ s, s < 10 → s2 (283 + 4 * s) 2 = c s := fun s hs => by rw [← hc s hs]; have := j3 (283 + 4 * s) 2; omega
    have eci := ec i hi
    have hskip : (i = gl V ∨ c i < 0) → wp (fX2_orderStops_L7 fu (fun s14 => some (0, s14)) n ((i : Int) + 1) s2) (fun _ σ' => OrdC V c σ' ∧ ∀ k j, k = 271 ∨ (k = 136 ∧ j = 11) ∨ σ' k j = σ k j) := by
      intro h
      rw [if_pos h] at hnx
      refine hrec s2 ?_
      rw [hnx]; exact ⟨j1, j2, j3⟩
    rw [fX2_orderStops_L7]
    refine iLe (fun h => by omega) (fun _ => ?_)
    refine wp_jn ?_
    refine iEq (fun h => hskip (by omega)) (fun h1 => ?_)
    refine rS i rfl hi ?_
    refine iEq (fun h => hskip (by omega)) (fun h2 => ?_)
    refine wp_lt ?_
    rw [j1]
    rw [if_neg (by omega)] at hnx
    have hm : ∀ j, j < (odk V c i).length → (gtL (odk V c i) j).2 < 10 ∧ (gtL (odk V c i) j).1 = 30000000 - c (gtL (odk V c i) j).2 := fun j hj => by
      have := odk_mem hb (gtL_mem hj); omega
    have hmain : ∀ (k : Nat) (s' : Mem), k ≤ (odk V c i).length → (k = 0 ∨ (gtL (odk V c i) (k - 1)).1 ≤ 30000000 - c i) → (∀ j, k ≤ j → j < (odk V c i).length → 30000000 - c i < (gtL (odk V c i) j).1) → (∀ j, j < k → s' 271 j = ((gtL (odk V c i) j).2 : Int)) → (∀ j, k ≤ j → j < (odk V c i).length → s' 271 (j + 1) = ((gtL (odk V c i) j).2 : Int)) → (∀ k j, k = 271 ∨ s' k j = s2 k j) →
        wp (wrI s' 271 10 (k : Int) (i : Int) (fun s9 => stf s9 136 11 ((s9 136 11) + 1) (fun s10 => fX2_orderStops_L7 fu (fun s14 => some (0, s14)) n ((i : Int) + 1) s10))) (fun _ σ' => OrdC V c σ' ∧ ∀ k j, k = 271 ∨ (k = 136 ∧ j = 11) ∨ σ' k j = σ k j) := by
      intro k s' hk hk1 hk2 ha hb2 hfr
      refine wI k rfl (by omega) ?_
      refine wp_stf ?_
      refine hrec _ ⟨?_, ?_, fun x j => ?_⟩
      · rw [ms_eq, ms_k (by omega), hnx, insB_len]
        have := hfr 136 11
        omega
      · rw [hnx]
        exact ord_ins (bset_srt _ _) (by omega) hk hk1 hk2 ha hb2 (fun j => ms_k (by omega))
      · by_cases e : x = 271
        · exact Or.inl e
        · by_cases e2 : x = 136 ∧ j = 11
          · exact Or.inr (Or.inl e2)
          · rw [mset_eq, if_neg e2, ms_k e]
            have a := hfr x j
            have b := j3 x j
            omega
    refine downE (f := fX2_orderStops_L39 fu (i : Int) _) (fun k s' => k ≤ (odk V c i).length ∧ (∀ j, k ≤ j → j < (odk V c i).length → 30000000 - c i < (gtL (odk V c i) j).1) ∧ (∀ j, j < k → s' 271 j = ((gtL (odk V c i) j).2 : Int)) ∧ (∀ j, k ≤ j → j < (odk V c i).length → s' 271 (j + 1) = ((gtL (odk V c i) j).2 : Int)) ∧ (∀ k j, k = 271 ∨ s' k j = s2 k j)) ?_ ?_ (i := (odk V c i).length) ?_ (by omega)
    · intro n s' ⟨q1, q2, q3, q4, q5⟩
      rw [fX2_orderStops_L39]
      refine iLe0 (fun _ => ?_) (fun h => by omega)
      exact hmain 0 s' (by omega) (Or.inl rfl) q2 q3 q4 q5
    · intro n k s' ⟨q1, q2, q3, q4, q5⟩ hrec2
      have hmk := hm k (by omega)
      have ec' : s' (283 + 4 * (gtL (odk V c i) k).2) 2 = c (gtL (odk V c i) k).2 := by rw [← ec _ hmk.1]; have := q5 (283 + 4 * (gtL (odk V c i) k).2) 2; omega
      have eci' : s' (283 + 4 * i) 2 = c i := by rw [← eci]; have := q5 (283 + 4 * i) 2; omega
      have hbk := hb (gtL (odk V c i) k).2
      rw [fX2_orderStops_L39]
      refine iLe0 (fun h => by omega) (fun _ => ?_)
      refine rI k (by omega) (by omega) ?_
      rw [q3 k (by omega)]
      refine rS (gtL (odk V c i) k).2 rfl hmk.1 ?_
      refine rS i rfl hi ?_
      rw [ec', eci']
      refine iLe (fun h => ?_) (fun h => ?_)
      · exact hmain (k + 1) s' (by omega) (Or.inr (by rw [Nat.add_sub_cancel]; omega)) q2 q3 q4 q5
      · refine rI k (by omega) (by omega) ?_
        refine wI (k + 1) rfl (by omega) ?_
        refine hrec2 _ ⟨by omega, fun j h1 h2 => ?_, fun j hj => ?_, fun j h1 h2 => ?_, fun x j => ?_⟩
        · by_cases e : j = k
          · rw [e]; omega
          · exact q2 j (by omega) h2
        · rw [ms_j (by omega)]; exact q3 j (by omega)
        · by_cases e : j = k
          · rw [e, ms_eq]; exact q3 k (by omega)
          · rw [ms_j (by omega)]; exact q4 j (by omega) h2
        · by_cases e : x = 271
          · exact Or.inl e
          · rw [ms_k e]; exact q5 x j
    · exact ⟨Nat.le_refl _, fun j h1 h2 => by omega, j2, fun j h1 h2 => by omega, fun k j => Or.inr rfl⟩
  · intro n s2 ⟨j1, j2, j3⟩
    rw [fX2_orderStops_L7]
    refine iLe (fun _ => ?_) (fun h => by omega)
    exact wp_some ⟨⟨j1, j2⟩, j3⟩
  · by_cases e : k = 136 ∧ j = 11
    · exact Or.inr (Or.inl e)
    · rw [mset_eq, if_neg e]; simp
theorem r_order (ok : OkN V) (hfu : 1000 < fu) (hg : σ 328 11 = V 328 11) (hb : ∀ s, -1 ≤ c s ∧ c s ≤ 20000000) (hc : ∀ s, s < 10 → σ 346 s = c s) : wp (fX7_laysOrder fu σ) (fun _ σ' => OrdR V c σ' ∧ ∀ k j, k = 354 ∨ (k = 328 ∧ j = 40) ∨ σ' k j = σ k j) := by
  have hgl := ok.go
  unfold fX7_laysOrder
  refine wp_stf ?_
  refine for1 (f := fX7_laysOrder_L7 fu _) 10 (fun i s2 => s2 328 40 = ((odk V c i).length : Int) ∧ (∀ j, j < (odk V c i).length → s2 354 j = ((gtL (odk V c i) j).2 : Int)) ∧ ∀ k j, k = 354 ∨ (k = 328 ∧ j = 40) ∨ s2 k j = σ k j) ?_ ?_ (i := 0) ⟨by rw [ms_eq]; rfl, fun j hj => by simp [odk, bset] at hj, fun k j => ?_⟩
  · intro n i s2 hi ⟨j1, j2, j3⟩ hrec
    have hnx := odk_next (V := V) hb i
    have hlen := odk_len (V := V) (c := c) (k := i)
    have hbi := hb i
    have e4 : s2 328 11 = V 328 11 := by rw [← hg]; have := j3 328 11; omega
    have ec : ∀ s, s < 10 → s2 346 s = c s := fun s hs => by rw [← hc s hs]; have := j3 346 s; omega
    have eci := ec i hi
    have hskip : (i = gl V ∨ c i < 0) → wp (fX7_laysOrder_L7 fu (fun s14 => some (0, s14)) n ((i : Int) + 1) s2) (fun _ σ' => OrdR V c σ' ∧ ∀ k j, k = 354 ∨ (k = 328 ∧ j = 40) ∨ σ' k j = σ k j) := by
      intro h
      rw [if_pos h] at hnx
      refine hrec s2 ?_
      rw [hnx]; exact ⟨j1, j2, j3⟩
    rw [fX7_laysOrder_L7]
    refine iLe (fun h => by omega) (fun _ => ?_)
    refine wp_jn ?_
    refine iEq (fun h => hskip (by omega)) (fun h1 => ?_)
    refine rI i rfl hi ?_
    refine jLe (fun h2 => ?_) (fun h => hskip (by omega))
    refine wp_lt ?_
    rw [j1]
    rw [if_neg (by omega)] at hnx
    have hm : ∀ j, j < (odk V c i).length → (gtL (odk V c i) j).2 < 10 ∧ (gtL (odk V c i) j).1 = 30000000 - c (gtL (odk V c i) j).2 := fun j hj => by
      have := odk_mem hb (gtL_mem hj); omega
    have hmain : ∀ (k : Nat) (s' : Mem), k ≤ (odk V c i).length → (k = 0 ∨ (gtL (odk V c i) (k - 1)).1 ≤ 30000000 - c i) → (∀ j, k ≤ j → j < (odk V c i).length → 30000000 - c i < (gtL (odk V c i) j).1) → (∀ j, j < k → s' 354 j = ((gtL (odk V c i) j).2 : Int)) → (∀ j, k ≤ j → j < (odk V c i).length → s' 354 (j + 1) = ((gtL (odk V c i) j).2 : Int)) → (∀ k j, k = 354 ∨ s' k j = s2 k j) →
        wp (wrI s' 354 10 (k : Int) (i : Int) (fun s9 => stf s9 328 40 ((s9 328 40) + 1) (fun s10 => fX7_laysOrder_L7 fu (fun s14 => some (0, s14)) n ((i : Int) + 1) s10))) (fun _ σ' => OrdR V c σ' ∧ ∀ k j, k = 354 ∨ (k = 328 ∧ j = 40) ∨ σ' k j = σ k j) := by
      intro k s' hk hk1 hk2 ha hb2 hfr
      refine wI k rfl (by omega) ?_
      refine wp_stf ?_
      refine hrec _ ⟨?_, ?_, fun x j => ?_⟩
      · rw [ms_eq, ms_k (by omega), hnx, insB_len]
        have := hfr 328 40
        omega
      · rw [hnx]
        exact ord_ins (bset_srt _ _) (by omega) hk hk1 hk2 ha hb2 (fun j => ms_k (by omega))
      · by_cases e : x = 354
        · exact Or.inl e
        · by_cases e2 : x = 328 ∧ j = 40
          · exact Or.inr (Or.inl e2)
          · rw [mset_eq, if_neg e2, ms_k e]
            have a := hfr x j
            have b := j3 x j
            omega
    refine downE (f := fX7_laysOrder_L40 fu (i : Int) _) (fun k s' => k ≤ (odk V c i).length ∧ (∀ j, k ≤ j → j < (odk V c i).length → 30000000 - c i < (gtL (odk V c i) j).1) ∧ (∀ j, j < k → s' 354 j = ((gtL (odk V c i) j).2 : Int)) ∧ (∀ j, k ≤ j → j < (odk V c i).length → s' 354 (j + 1) = ((gtL (odk V c i) j).2 : Int)) ∧ (∀ k j, k = 354 ∨ s' k j = s2 k j)) ?_ ?_ (i := (odk V c i).length) ?_ (by omega)
    · intro n s' ⟨q1, q2, q3, q4, q5⟩
      rw [fX7_laysOrder_L40]
      refine iLe0 (fun _ => ?_) (fun h => by omega)
      exact hmain 0 s' (by omega) (Or.inl rfl) q2 q3 q4 q5
    · intro n k s' ⟨q1, q2, q3, q4, q5⟩ hrec2
      have hmk := hm k (by omega)
      have ec' : s' 346 (gtL (odk V c i) k).2 = c (gtL (odk V c i) k).2 := by rw [← ec _ hmk.1]; have := q5 346 (gtL (odk V c i) k).2; omega
      have eci' : s' 346 i = c i := by rw [← eci]; have := q5 346 i; omega
      have hbk := hb (gtL (odk V c i) k).2
      rw [fX7_laysOrder_L40]
      refine iLe0 (fun h => by omega) (fun _ => ?_)
      refine rI k (by omega) (by omega) ?_
      rw [q3 k (by omega)]
      refine rI (gtL (odk V c i) k).2 rfl hmk.1 ?_
      refine rI i rfl hi ?_
      rw [ec', eci']
      refine jLe (fun h => ?_) (fun h => ?_)
      · exact hmain (k + 1) s' (by omega) (Or.inr (by rw [Nat.add_sub_cancel]; omega)) q2 q3 q4 q5
      · refine rI k (by omega) (by omega) ?_
        refine wI (k + 1) rfl (by omega) ?_
        refine hrec2 _ ⟨by omega, fun j h1 h2 => ?_, fun j hj => ?_, fun j h1 h2 => ?_, fun x j => ?_⟩
        · by_cases e : j = k
          · rw [e]; omega
          · exact q2 j (by omega) h2
        · rw [ms_j (by omega)]; exact q3 j (by omega)
        · by_cases e : j = k
          · rw [e, ms_eq]; exact q3 k (by omega)
          · rw [ms_j (by omega)]; exact q4 j (by omega) h2
        · by_cases e : x = 354
          · exact Or.inl e
          · rw [ms_k e]; exact q5 x j
    · exact ⟨Nat.le_refl _, fun j h1 h2 => by omega, j2, fun j h1 h2 => by omega, fun k j => Or.inr rfl⟩
  · intro n s2 ⟨j1, j2, j3⟩
    rw [fX7_laysOrder_L7]
    refine iLe (fun _ => ?_) (fun h => by omega)
    exact wp_some ⟨⟨j1, j2⟩, j3⟩
  · by_cases e : k = 328 ∧ j = 40
    · exact Or.inr (Or.inl e)
    · rw [mset_eq, if_neg e]; simp
end ORDER
