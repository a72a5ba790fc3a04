/-! ===== the reference reads the lines of a text and takes them ===== -/
def LnV (x : zLn) (V : Mem) (l : Nat) : Prop := V 329 l = x.1 ∧ V 330 l = (x.2.1 : Int) ∧ V 335 l = 50 ∧ V 336 l = 0 ∧ V 337 l = 0 ∧ (∀ p, p < x.2.1 → V 331 (8 * l + p) = x.2.2.1 p) ∧ (∀ p, p + 1 < x.2.1 → V 332 (8 * l + p) = x.2.2.2 p ∧ V 333 (8 * l + p) = 0 ∧ V 334 (8 * l + p) = 0)
def FrT (n0 : Nat) (σ σ' : Mem) : Prop := ∀ k j, (k = 328 ∧ j = 9) ∨ ((k = 329 ∨ k = 330 ∨ k = 335 ∨ k = 336 ∨ k = 337) ∧ n0 ≤ j) ∨ (331 ≤ k ∧ k ≤ 334 ∧ 8 * n0 ≤ j) ∨ σ' k j = σ k j
def RfE (V : Mem) (n0 : Nat) (LS : Nat → zLn) (m : Nat) (u : Int) (cl : Nat → Int) (σ : Mem) : Prop := σ 328 9 = ((n0 + m : Nat) : Int) ∧ (∀ j, j = 10 ∨ j = 11 ∨ j = 12 ∨ j = 19 ∨ j = 37 → σ 328 j = V 328 j) ∧ σ 328 13 = u ∧ σ 328 17 = 0 ∧ (∀ j, σ 341 j = V 341 j) ∧ (∀ s, s < 10 → σ 338 s = V 338 s ∧ σ 339 s = cl s) ∧ (∀ k, k < m → LnV (LS k) σ (n0 + k) ∧ OkLn (LS k)) ∧ (∀ k j, (k = 329 ∨ k = 330 ∨ k = 335 ∨ k = 336 ∨ k = 337) → j < n0 → σ k j = V k j) ∧ (∀ k j, 331 ≤ k → k ≤ 334 → j < 8 * n0 → σ k j = V k j)
section RNET
variable {V V' U σ σ' σ'' X W : Mem} {z : Nat → Int} {N a m room c Q fu k j p i t n n0 : Nat} {v x f ch u : Int} {w : zWS} {LS : Nat → zLn} {cl : Nat → Int}
theorem LnV.mv {y : zLn} {l : Nat} (h : LnV y σ l) (hc : y.2.1 ≤ 8) (e1 : ∀ k, (k = 329 ∨ k = 330 ∨ k = 335 ∨ k = 336 ∨ k = 337) → σ' k l = σ k l) (e2 : ∀ k j, 331 ≤ k → k ≤ 334 → 8 * l ≤ j → j < 8 * l + 8 → σ' k j = σ k j) : LnV y σ' l := by
  obtain ⟨h1, h2, h3, h4, h5, h6, h7⟩ := h
  refine ⟨by rw [e1 _ (by omega)]; exact h1, by rw [e1 _ (by omega)]; exact h2, by rw [e1 _ (by omega)]; exact h3, by rw [e1 _ (by omega)]; exact h4, by rw [e1 _ (by omega)]; exact h5, fun p hp => by rw [e2 _ _ (by omega) (by omega) (by omega) (by omega)]; exact h6 p hp, fun p hp => ?_⟩
  rw [e2 _ _ (by omega) (by omega) (by omega) (by omega), e2 _ _ (by omega) (by omega) (by omega) (by omega), e2 _ _ (by omega) (by omega) (by omega) (by omega)]
  exact h7 p hp
theorem r_takes (hfu : 1000 < fu) (hR : RdR LS m σ) (hLS : ∀ k, k < m → OkLn (LS k)) (h9 : σ 328 9 = (n0 : Int)) (hm : n0 + m ≤ 12) : wp (fX7_takesRead fu σ) (fun _ σ' => σ' 328 9 = ((n0 + m : Nat) : Int) ∧ (∀ k, k < m → LnV (LS k) σ' (n0 + k)) ∧ FrT n0 σ σ') := by
  obtain ⟨q1, q2, q3⟩ := hR
  unfold fX7_takesRead
  refine for1 (f := fX7_takesRead_L2 fu _) m (fun i s => s 328 9 = ((n0 + i : Nat) : Int) ∧ (∀ k, k < i → LnV (LS k) s (n0 + k)) ∧ FrT n0 σ s) ?_ ?_ (i := 0) ⟨by rw [h9]; rfl, fun k hk => by omega, fun k j => by simp⟩
  · intro n i s hi ⟨j1, j2, j3⟩ hrec
    have e25 : s 328 25 = (m : Int) := by rw [← q1]; have := j3 328 25; omega
    obtain ⟨b1, b2, b3, b4⟩ := q3 i hi
    have hok := hLS i hi
    have es : ∀ k j, 342 ≤ k → s k j = σ k j := fun k j hk => by have := j3 k j; omega
    rw [fX7_takesRead_L2, e25]
    refine iLe (fun h => by omega) (fun _ => wp_lt ?_)
    rw [j1]
    refine rI i rfl (by omega) (wI (n0 + i) rfl (by omega) (rI i rfl (by omega) (wI (n0 + i) rfl (by omega) (wI (n0 + i) rfl (by omega) (wI (n0 + i) rfl (by omega) (wI (n0 + i) rfl (by omega) ?_))))))
    rw [n1_0, ms_k (show (343 : Nat) ≠ 329 by omega), es 342 i (by omega), es 343 i (by omega), b1, b2]
    have a1 : ∀ k j, ((k = 329 ∨ k = 330 ∨ k = 335 ∨ k = 336 ∨ k = 337) ∧ j = n0 + i) ∨ mset (mset (mset (mset (mset s 329 (n0 + i) (LS i).1) 330 (n0 + i) ((LS i).2.1 : Int)) 335 (n0 + i) 50) 336 (n0 + i) 0) 337 (n0 + i) 0 k j = s k j := fun k j => by
      by_cases e : (k = 329 ∨ k = 330 ∨ k = 335 ∨ k = 336 ∨ k = 337) ∧ j = n0 + i
      · exact Or.inl e
      · right; rw [mset_eq, if_neg (by omega), mset_eq, if_neg (by omega), mset_eq, if_neg (by omega), mset_eq, if_neg (by omega), mset_eq, if_neg (by omega)]
    have a2 : mset (mset (mset (mset (mset s 329 (n0 + i) (LS i).1) 330 (n0 + i) ((LS i).2.1 : Int)) 335 (n0 + i) 50) 336 (n0 + i) 0) 337 (n0 + i) 0 329 (n0 + i) = (LS i).1 := by rw [ms_k (by omega), ms_k (by omega), ms_k (by omega), ms_k (by omega), ms_eq]
    have a3 : mset (mset (mset (mset (mset s 329 (n0 + i) (LS i).1) 330 (n0 + i) ((LS i).2.1 : Int)) 335 (n0 + i) 50) 336 (n0 + i) 0) 337 (n0 + i) 0 330 (n0 + i) = ((LS i).2.1 : Int) := by rw [ms_k (by omega), ms_k (by omega), ms_k (by omega), ms_eq]
    have a4 : mset (mset (mset (mset (mset s 329 (n0 + i) (LS i).1) 330 (n0 + i) ((LS i).2.1 : Int)) 335 (n0 + i) 50) 336 (n0 + i) 0) 337 (n0 + i) 0 335 (n0 + i) = 50 := by rw [ms_k (by omega), ms_k (by omega), ms_eq]
    have a5 : mset (mset (mset (mset (mset s 329 (n0 + i) (LS i).1) 330 (n0 + i) ((LS i).2.1 : Int)) 335 (n0 + i) 50) 336 (n0 + i) 0) 337 (n0 + i) 0 336 (n0 + i) = 0 := by rw [ms_k (by omega), ms_eq]
    have a6 : mset (mset (mset (mset (mset s 329 (n0 + i) (LS i).1) 330 (n0 + i) ((LS i).2.1 : Int)) 335 (n0 + i) 50) 336 (n0 + i) 0) 337 (n0 + i) 0 337 (n0 + i) = 0 := ms_eq _ _ _ _
    generalize mset (mset (mset (mset (mset s 329 (n0 + i) (LS i).1) 330 (n0 + i) ((LS i).2.1 : Int)) 335 (n0 + i) 50) 336 (n0 + i) 0) 337 (n0 + i) 0 = s6 at *
    have es6 : ∀ k j, 342 ≤ k → s6 k j = σ k j := fun k j hk => by have := a1 k j; have := es k j hk; omega
    refine for1 (f := fX7_takesRead_L63 fu (i : Int) ((n0 + i : Nat) : Int) _) 8 (fun q y => (∀ p, p < q → y 331 (8 * (n0 + i) + p) = σ 344 (8 * i + p) ∧ y 332 (8 * (n0 + i) + p) = σ 345 (8 * i + p) ∧ y 333 (8 * (n0 + i) + p) = 0 ∧ y 334 (8 * (n0 + i) + p) = 0) ∧ ∀ k j, (331 ≤ k ∧ k ≤ 334 ∧ 8 * (n0 + i) ≤ j ∧ j < 8 * (n0 + i) + 8) ∨ y k j = s6 k j) ?_ ?_ (i := 0) ⟨fun p hp => by omega, fun k j => Or.inr rfl⟩
    · intro n' q y hq ⟨w1, w2⟩ hrec'
      have ey : ∀ k j, 342 ≤ k → y k j = σ k j := fun k j hk => by have := w2 k j; have := es6 k j hk; omega
      rw [fX7_takesRead_L63]
      refine iLe (fun h => by omega) (fun _ => ?_)
      unfold fX7_at
      refine wp_bs (wp_bs (rI (8 * i + q) (by omega) (by omega) (wI (8 * (n0 + i) + q) (by omega) (by omega) ?_)))
      refine wp_bs (wp_bs (rI (8 * i + q) (by omega) (by omega) (wI (8 * (n0 + i) + q) (by omega) (by omega) ?_)))
      refine wp_bs (wI (8 * (n0 + i) + q) (by omega) (by omega) ?_)
      refine wp_bs (wI (8 * (n0 + i) + q) (by omega) (by omega) ?_)
      rw [ms_k (show (345 : Nat) ≠ 331 by omega), ey 344 _ (by omega), ey 345 _ (by omega)]
      refine hrec' _ ⟨fun p hp => ?_, fun k j => ?_⟩
      · by_cases e : p = q
        · rw [e]
          refine ⟨?_, ?_, ?_, ms_eq _ _ _ _⟩
          · rw [ms_k (by omega), ms_k (by omega), ms_k (by omega), ms_eq]
          · rw [ms_k (by omega), ms_k (by omega), ms_eq]
          · rw [ms_k (by omega), ms_eq]
        · have := w1 p (by omega)
          refine ⟨?_, ?_, ?_, ?_⟩
          · rw [ms_k (by omega), ms_k (by omega), ms_k (by omega), ms_j (by omega)]; exact this.1
          · rw [ms_k (by omega), ms_k (by omega), ms_j (by omega), ms_k (by omega)]; exact this.2.1
          · rw [ms_k (by omega), ms_j (by omega), ms_k (by omega), ms_k (by omega)]; exact this.2.2.1
          · rw [ms_j (by omega), ms_k (by omega), ms_k (by omega), ms_k (by omega)]; exact this.2.2.2
      · by_cases e : 331 ≤ k ∧ k ≤ 334 ∧ j = 8 * (n0 + i) + q
        · left; omega
        · rw [mset_eq, if_neg (by omega), mset_eq, if_neg (by omega), mset_eq, if_neg (by omega), mset_eq, if_neg (by omega)]; exact w2 k j
    · intro n' y ⟨w1, w2⟩
      rw [fX7_takesRead_L63]
      refine iLe (fun _ => ?_) (fun h => by omega)
      have e9 : y 328 9 = ((n0 + i : Nat) : Int) := by rw [← j1]; have := w2 328 9; have := a1 328 9; omega
      refine wp_stf ?_
      rw [e9]
      have hout : ∀ k j, ¬ (k = 328 ∧ j = 9) → mset y 328 9 (((n0 + i : Nat) : Int) + 1) k j = y k j := fun k j g => by rw [mset_eq, if_neg g]
      refine hrec _ ⟨by rw [ms_eq]; omega, fun k hk => ?_, fun k j => ?_⟩
      · by_cases e : k = i
        · rw [e]
          refine ⟨?_, ?_, ?_, ?_, ?_, fun p hp => ?_, fun p hp => ?_⟩
          · rw [hout _ _ (by omega), ← a2]; have := w2 329 (n0 + i); omega
          · rw [hout _ _ (by omega), ← a3]; have := w2 330 (n0 + i); omega
          · rw [hout _ _ (by omega), ← a4]; have := w2 335 (n0 + i); omega
          · rw [hout _ _ (by omega), ← a5]; have := w2 336 (n0 + i); omega
          · rw [hout _ _ (by omega), ← a6]; have := w2 337 (n0 + i); omega
          · have h8 := hok.2.1.2
            rw [hout _ _ (by omega), (w1 p (by omega)).1]; exact b3 p hp
          · have h8 := hok.2.1.2
            have := w1 p (by omega)
            rw [hout _ _ (by omega), hout _ _ (by omega), hout _ _ (by omega)]
            exact ⟨this.2.1.trans (b4 p hp), this.2.2.1, this.2.2.2⟩
        · refine (j2 k (by omega)).mv (hLS k (by omega)).2.1.2 (fun q hq => ?_) (fun q j g1 g2 g3 g4 => ?_)
          · rw [hout _ _ (by omega)]; have := w2 q (n0 + k); have := a1 q (n0 + k); omega
          · rw [hout _ _ (by omega)]; have := w2 q j; have := a1 q j; omega
      · by_cases e : k = 328 ∧ j = 9
        · exact Or.inl e
        · rw [hout k j e]; have := w2 k j; have := a1 k j; have := j3 k j; omega
  · intro n s ⟨j1, j2, j3⟩
    have e25 : s 328 25 = (m : Int) := by rw [← q1]; have := j3 328 25; omega
    rw [fX7_takesRead_L2, e25]
    exact iLe (fun _ => wp_some ⟨j1, j2, j3⟩) (fun h => by omega)
theorem FrR.refl (σ : Mem) : FrR σ σ := fun _ _ => by simp
theorem FrR.tx {b : Nat} (h : FrR σ σ') (hT : TxR z N a σ) (e : σ' 328 27 = (b : Int)) : TxR z N b σ' := ⟨by rw [← hT.1]; have := h 328 26; omega, fun i hi => by rw [← hT.2.1 i hi]; have := h 340 i; rw [show σ' 340 i = σ 340 i by omega], e⟩
theorem RdR.s27 (h : RdR LS m σ) (hj : j ≠ 25) (hLS : ∀ k, k < m → OkLn (LS k)) : RdR LS m (mset σ 328 j v) := ⟨by rw [ms_j (by omega)]; exact h.1, h.2.1, fun k hk => (h.2.2 k hk).mv (hLS k hk).2.1.2 (ms_k (by omega)) (ms_k (by omega)) (fun j _ _ => ⟨ms_k (by omega), ms_k (by omega)⟩)⟩
theorem rlsL_r (h : TxZ z N) : ∀ n a LS m, a ≤ N → -1 ≤ (rlsL z n a LS m).1 ∧ (rlsL z n a LS m).1 ≤ 402 := by
  intro n
  induction n with
  | zero => intro a LS m _; rw [rlsL_0]; show -1 ≤ (-1 : Int) ∧ (-1 : Int) ≤ 402; omega
  | succ n ih =>
    intro a LS m ha
    by_cases g : z a = 59
    · have hal := h.lt (i := a) (by omega)
      by_cases g2 : rlW z (a + 1) m 12 = -1
      · rw [rlsL_k g g2]; exact ih _ _ _ (rlL_ok h g2).2
      · rw [rlsL_w g g2]; exact rlW_r h (by omega)
    · rw [rlsL_s g]; show -1 ≤ (-1 : Int) ∧ (-1 : Int) ≤ 402; omega
theorem r_linesL {R : Int → Mem → Prop} {K : Mem → PR} (h : TxZ z N) (hfu : 1000 < fu) :
    ∀ (n fuel a : Nat) (LS : Nat → zLn) (m : Nat) (s : Mem), n + 1 < fuel → 13 ≤ m + n → TxR z N a s → a ≤ N → s 328 28 = -1 → RdR LS m s → (∀ k, k < m → OkLn (LS k)) → FrR σ s →
      (∀ s', (rlsL z n a LS m).1 ≠ -1 → s' 328 28 = (rlsL z n a LS m).1 → FrR σ s' → wp (K s') R) →
      (∀ s', (rlsL z n a LS m).1 = -1 → s' 328 28 = -1 → TxR z N (rlsL z n a LS m).2.1 s' → (rlsL z n a LS m).2.1 ≤ N → RdR (rlsL z n a LS m).2.2.1 (rlsL z n a LS m).2.2.2 s' → (∀ k, k < (rlsL z n a LS m).2.2.2 → OkLn ((rlsL z n a LS m).2.2.1 k)) → FrR σ s' → wp (K s') R) →
      wp (fX7_net_L21 fu K fuel s) R := by
  have hN := h.1
  intro n
  induction n with
  | zero => intro fuel a LS m s _ hm _ _ _ hR; have := hR.2.1; omega
  | succ n ih =>
    intro fuel a LS m s hf hm hT ha h28 hR hLS hfr hK0 hK1
    have hm12 := hR.2.1
    obtain ⟨fl, rfl⟩ : ∃ fl, fuel = fl + 1 := ⟨fuel - 1, by omega⟩
    have hb := h.b a
    have hb1 := h.b (a + 1)
    rw [fX7_net_L21, h28]
    refine iNe (fun g => absurd rfl g) (fun _ => ?_)
    refine wp_bnd _ (r_sees h hT (by omega)) ?_
    rintro y s' ⟨rfl, rfl⟩
    refine iNe (fun g => ?_) (fun g => ?_)
    · rw [rlsL_s g] at hK1
      exact hK1 s rfl h28 hT ha hR hLS hfr
    · have hal := h.lt (i := a) (by omega)
      refine wp_stf ?_
      rw [hT.2.2]
      have hfr6 : FrR σ (mset s 328 27 ((a : Int) + 1)) := fun k j => by
        by_cases e : k = 328 ∧ j = 27
        · left; omega
        · rw [mset_eq, if_neg e]; exact hfr k j
      have hR6 : RdR LS m (mset s 328 27 ((a : Int) + 1)) := hR.s27 (by omega) hLS
      have hT6 : TxR z N (a + 1) (mset s 328 27 ((a : Int) + 1)) := ⟨by rw [ms_j (by omega)]; exact hT.1, fun i hi => by rw [ms_k (by omega)]; exact hT.2.1 i hi, by rw [ms_eq]; omega⟩
      have h286 : mset s 328 27 ((a : Int) + 1) 328 28 = -1 := by rw [ms_j (by omega)]; exact h28
      generalize mset s 328 27 ((a : Int) + 1) = s6 at *
      refine wp_bnd _ (r_sees h hT6 (by omega)) ?_
      rintro y s' ⟨rfl, rfl⟩
      rw [w32_sm (x := z (a + 1)) (by omega) (by omega)]
      refine wp_bnd _ (r_in _ (by omega) (by omega) (by omega)) ?_
      rintro y s' ⟨y0, y1, rfl⟩
      have hrr := rlW_r (m := m) (room := 12) (a := a + 1) h (by omega)
      obtain ⟨f2, rfl⟩ : ∃ f2, fl = f2 + 1 := ⟨fl - 1, by omega⟩
      have hexit : ∀ s9 : Mem, rlW z (a + 1) m 12 ≠ -1 → s9 328 28 = rlW z (a + 1) m 12 → FrR σ s9 → wp (fX7_net_L21 fu K (f2 + 1) s9) R := by
        intro s9 e1 e2 e3
        rw [rlsL_w g e1] at hK0
        rw [fX7_net_L21, e2]
        exact iNe (fun _ => hK0 s9 e1 e2 e3) (fun q => absurd q e1)
      refine iEq0 (fun q => ?_) (fun q => ?_)
      · have hnd : ¬ dig (z (a + 1)) := fun g => by have := y1.mpr g; omega
        have er : rlW z (a + 1) m 12 = ((a + 1 : Nat) : Int) := by
          unfold rlW
          by_cases g12 : 12 ≤ m
          · rw [if_pos g12]
          · have e2 : rNum z 60 (a + 1) = ((a + 1 : Nat) : Int) := by unfold rNum; rw [if_pos hnd]
            rw [if_neg g12, e2, if_pos (by omega)]
        rw [hT6.2.2]
        refine wp_bnd _ (r_fault h286) ?_
        intro _ s9 ⟨w1, w2⟩
        exact hexit s9 (by omega) (by rw [w1, er]) (hfr6.trans (fun k j => by have := w2 k j; omega))
      · refine wp_bnd _ (r_line (room := 12) h hfu hT6 (by omega) h286 hR6 hLS (by omega) hm12 (by omega)) ?_
        rintro _ s9 ⟨g9, f9⟩
        have hfr9 := hfr6.trans f9
        rcases g9 with ⟨g9, g9'⟩ | ⟨g9, g9', g9t, g9r⟩
        · exact hexit s9 g9 g9' hfr9
        · rw [rlsL_k g g9] at hK0 hK1
          have hle := adM_le h g9
          exact ih (f2 + 1) _ _ _ s9 (by omega) (by omega) (f9.tx hT6 g9t) (rlL_ok h g9).2 g9' g9r (adL_ok h g9 hLS) hfr9 hK0 hK1
end RNET
