/-! ===== the class reads the lines of a text ===== -/
def rlsL (z : Nat → Int) : Nat → Nat → (Nat → zLn) → Nat → Int × Nat × (Nat → zLn) × Nat
  | 0, a, LS, m => (-1, a, LS, m)
  | n + 1, a, LS, m => if z a ≠ 59 then (-1, a, LS, m) else if rlW z (a + 1) m 12 ≠ -1 then (rlW z (a + 1) m 12, a, LS, m) else rlsL z n (rlA z (a + 1)) (adL z (a + 1) LS m) (adM z (a + 1) m)
def lnZ : Nat → zLn := fun _ => (0, 0, (fun _ => 0), (fun _ => 0))
def enE (N : Nat) (r : Int × Nat × (Nat → zLn) × Nat) : Int × (Nat → zLn) × Nat := if r.1 ≠ -1 then (r.1, r.2.2.1, r.2.2.2) else if r.2.1 ≠ N then ((r.2.1 : Int), r.2.2.1, r.2.2.2) else (-1, r.2.2.1, r.2.2.2)
def netE (z : Nat → Int) (N : Nat) : Int × (Nat → zLn) × Nat := if N = 0 then (-1, lnZ, 0) else if rlW z 0 0 12 ≠ -1 then (rlW z 0 0 12, lnZ, 0) else enE N (rlsL z 12 (rlA z 0) (adL z 0 lnZ 0) (adM z 0 0))
def addE (z : Nat → Int) (N room : Nat) : Int × (Nat → zLn) × Nat := if rlW z 0 0 room ≠ -1 then (rlW z 0 0 room, lnZ, 0) else enE N (-1, rlA z 0, adL z 0 lnZ 0, adM z 0 0)
section CNET
variable {V V' U σ σ' σ'' X W : Mem} {z : Nat → Int} {N a m room c Q fu k j p i t n : Nat} {v x f ch : Int} {w : zWS} {LS : Nat → zLn}
theorem adL_ok (h : TxZ z N) (e : rlW z a m room = -1) (hLS : ∀ k, k < m → OkLn (LS k)) : ∀ k, k < adM z a m → OkLn (adL z a LS m k) := by
  have hl := (rlL_ok h e).1
  intro k hk
  by_cases hz : z (nA z a) = 61
  · have eM : adM z a m = m + 2 := if_pos hz
    have eL : adL z a LS m = updL (updL LS m (rlL z a)) (m + 1) (revL (rlL z a)) := if_pos hz
    rw [eL]
    by_cases e1 : k = m + 1
    · have eU : updL (updL LS m (rlL z a)) (m + 1) (revL (rlL z a)) k = revL (rlL z a) := if_pos e1
      rw [eU]; exact revL_ok hl
    · have eU : updL (updL LS m (rlL z a)) (m + 1) (revL (rlL z a)) k = updL LS m (rlL z a) k := if_neg e1
      rw [eU]
      by_cases e2 : k = m
      · have eU2 : updL LS m (rlL z a) k = rlL z a := if_pos e2
        rw [eU2]; exact hl
      · have eU2 : updL LS m (rlL z a) k = LS k := if_neg e2
        rw [eU2]; exact hLS k (by omega)
  · have eM : adM z a m = m + 1 := if_neg hz
    have eL : adL z a LS m = updL LS m (rlL z a) := if_neg hz
    rw [eL]
    by_cases e2 : k = m
    · have eU2 : updL LS m (rlL z a) k = rlL z a := if_pos e2
      rw [eU2]; exact hl
    · have eU2 : updL LS m (rlL z a) k = LS k := if_neg e2
      rw [eU2]; exact hLS k (by omega)
theorem adM_le (h : TxZ z N) (e : rlW z a m room = -1) : m + 1 ≤ adM z a m ∧ adM z a m ≤ room := by
  have := rlW_ok h e
  unfold adM
  split <;> omega
theorem FrQ.refl (σ : Mem) : FrQ σ σ := fun _ _ => Or.inr (Or.inr rfl)
theorem FrQ.tr (hT : Tab σ) (h : FrQ σ σ') (g : FrQ σ' σ'') : FrQ σ σ'' := fun k j => by
  have ht := h.tab hT
  rcases g k j with e | ⟨q, q1, q2, q3⟩ | e
  · exact Or.inl e
  · exact Or.inr (Or.inl ⟨q, q1, by rw [← ht.2.2]; exact q2, by rw [← ht.2.2]; exact q3⟩)
  · rw [e]; exact h k j
theorem FrQ.at_ (hT : Tab σ) (h : FrQ σ σ') (hk : k ≤ 2 ∨ 270 ≤ k) (hn : ¬ (k = 1 ∧ 3 ≤ j ∧ j ≤ 6)) : σ' k j = σ k j := by
  rcases h k j with e | ⟨q, q1, q2, q3⟩ | e
  · exact absurd e hn
  · have := hT.2.2.1 q q1; omega
  · exact e
theorem FrQ.tx {b : Nat} (hT : Tab σ) (h : FrQ σ σ') (g : TxC z N a σ) (e : σ' 1 5 = (b : Int)) : TxC z N b σ' := ⟨by rw [h.at_ hT (by omega) (by omega)]; exact g.1, fun i hi => by rw [h.at_ hT (by omega) (by omega)]; exact g.2.1 i hi, e⟩
theorem FrQ.s1 (h : FrQ σ σ') (hj : 3 ≤ j ∧ j ≤ 6) : FrQ σ (mset σ' 1 j v) := fun a b => by
  by_cases e : a = 1 ∧ b = j
  · left; omega
  · rw [mset_eq, if_neg e]; exact h a b
theorem ClQ.s1 (h : ClQ LS m σ) (hj : j ≠ 2) (hj3 : j ≠ 3) : ClQ LS m (mset σ 1 j v) := by
  obtain ⟨h1, h2, h3, h4⟩ := h
  obtain ⟨t1, t2, t3⟩ := tab_mv h1 (σ' := mset σ 1 j v) (ms_k (by omega)) (ms_j (by omega)) (fun j => ms_k (by omega)) (fun j => ms_k (by omega))
  refine ⟨t1, by rw [ms_j (by omega)]; exact h2, h3, fun k hk => ?_⟩
  rw [t3]
  have hq := h1.2.2.1 k (by omega)
  exact (h4 k hk).mv (fun k' j' a b => ms_k (by omega))
theorem rlsL_0 : rlsL z 0 a LS m = (-1, a, LS, m) := rfl
theorem rlsL_s (g : z a ≠ 59) : rlsL z (n + 1) a LS m = (-1, a, LS, m) := if_pos g
theorem rlsL_w (g : z a = 59) (g2 : rlW z (a + 1) m 12 ≠ -1) : rlsL z (n + 1) a LS m = (rlW z (a + 1) m 12, a, LS, m) := by
  show (if z a ≠ 59 then ((-1 : Int), a, LS, m) else if rlW z (a + 1) m 12 ≠ -1 then (rlW z (a + 1) m 12, a, LS, m) else rlsL z n (rlA z (a + 1)) (adL z (a + 1) LS m) (adM z (a + 1) m)) = _
  rw [if_neg (fun q => q g), if_pos g2]
theorem rlsL_k (g : z a = 59) (g2 : rlW z (a + 1) m 12 = -1) : rlsL z (n + 1) a LS m = rlsL z n (rlA z (a + 1)) (adL z (a + 1) LS m) (adM z (a + 1) m) := by
  show (if z a ≠ 59 then ((-1 : Int), a, LS, m) else if rlW z (a + 1) m 12 ≠ -1 then (rlW z (a + 1) m 12, a, LS, m) else rlsL z n (rlA z (a + 1)) (adL z (a + 1) LS m) (adM z (a + 1) m)) = _
  rw [if_neg (fun q => q g), if_neg (fun q => q g2)]
theorem c_linesL {R : Int → Mem → Prop} {K : Int → Mem → PR} (h : TxZ z N) (hfu : 1000 < fu) (hTab : Tab σ) :
    ∀ (n fuel a : Nat) (LS : Nat → zLn) (m : Nat) (s : Mem), n < fuel → n ≤ 12 → TxC z N a s → a ≤ N → ClQ LS m s → FrQ σ s →
      (∀ s', (rlsL z n a LS m).1 ≠ -1 → s' 1 4 = (rlsL z n a LS m).1 → FrQ σ s' → wp (K 0 s') R) →
      (∀ s', (rlsL z n a LS m).1 = -1 → TxC z N (rlsL z n a LS m).2.1 s' → (rlsL z n a LS m).2.1 ≤ N → ClQ (rlsL z n a LS m).2.2.1 (rlsL z n a LS m).2.2.2 s' → FrQ σ s' → wp (K 1 s') R) →
      wp (fX5_readsLines_L22 fu K fuel 1 (13 - (n : Int)) s) R := by
  have hN := h.1
  intro n
  induction n with
  | zero =>
    intro fuel a LS m s hf _ hT ha hQ hfr _ hK1
    obtain ⟨fl, rfl⟩ : ∃ fl, fuel = fl + 1 := ⟨fuel - 1, by omega⟩
    rw [fX5_readsLines_L22]
    exact iLt (fun _ => hK1 s rfl hT ha hQ hfr) (fun g => by omega)
  | succ n ih =>
    intro fuel a LS m s hf hn hT ha hQ hfr hK0 hK1
    obtain ⟨fl, rfl⟩ : ∃ fl, fuel = fl + 1 := ⟨fuel - 1, by omega⟩
    rw [fX5_readsLines_L22]
    refine iLt (fun g => by omega) (fun _ => ?_)
    refine iEq0 (fun g => by omega) (fun _ => ?_)
    refine wp_bnd _ (c_isNext h hT (by omega) (by omega)) ?_
    rintro y s' ⟨y0, y1, rfl⟩
    refine iEq0 (fun g => ?_) (fun g => ?_)
    · have hz : z a ≠ 59 := fun q => by have := y1.mpr q; omega
      rw [rlsL_s hz] at hK1
      exact hK1 s rfl hT ha hQ hfr
    · have hz : z a = 59 := y1.mp (by omega)
      have hal := h.lt (i := a) (by omega)
      refine wp_stf ?_
      rw [hT.2.2]
      have hQ5 : ClQ LS m (mset s 1 5 ((a : Int) + 1)) := hQ.s1 (by omega) (by omega)
      have hfr5 : FrQ σ (mset s 1 5 ((a : Int) + 1)) := hfr.s1 (by omega)
      have hT5 : TxC z N (a + 1) (mset s 1 5 ((a : Int) + 1)) := ⟨by rw [ms_j (by omega)]; exact hT.1, fun i hi => by rw [ms_k (by omega)]; exact hT.2.1 i hi, by rw [ms_eq]; omega⟩
      generalize mset s 1 5 ((a : Int) + 1) = s5 at *
      refine wp_bnd _ (c_line (room := 12) h hfu hT5 (by omega) hQ5 (by omega)) ?_
      rintro r s6 ⟨g6, f6⟩
      have hfr6 : FrQ σ s6 := FrQ.tr hTab hfr5 f6
      rcases g6 with ⟨rfl, g6, g6'⟩ | ⟨rfl, g6, g6', g6''⟩
      · rw [rlsL_w hz g6] at hK0
        obtain ⟨f2, rfl⟩ : ∃ f2, fl = f2 + 1 := ⟨fl - 1, by omega⟩
        rw [fX5_readsLines_L22]
        refine iLt (fun _ => hK0 s6 g6 g6' hfr6) (fun _ => ?_)
        exact iEq0 (fun _ => hK0 s6 g6 g6' hfr6) (fun g => absurd rfl g)
      · rw [rlsL_k hz g6] at hK0 hK1
        rw [show (13 : Int) - ((n + 1 : Nat) : Int) + 1 = 13 - (n : Int) by omega]
        exact ih fl _ _ _ s6 (by omega) (by omega) (f6.tx hQ5.1 hT5 g6') (rlL_ok h g6).2 g6'' hfr6 hK0 hK1
/-- the end of the text -/
theorem c_rend (h : TxZ z N) (hT : TxC z N a σ) (ha : a ≤ N) : wp (fX5_readsEnd fu σ) (fun r σ' => ((r = 0 ∧ a ≠ N ∧ σ' 1 4 = (a : Int)) ∨ (r = 1 ∧ a = N ∧ σ = σ')) ∧ Fr1 σ σ') := by
  have hN := h.1
  unfold fX5_readsEnd
  rw [hT.1, hT.2.2]
  refine wp_jn (wp_jn (iEq (fun g => wp_rtz (Or.inr rfl) ⟨Or.inr ⟨rfl, by omega, rfl⟩, Fr1.refl σ⟩) (fun g => ?_)))
  refine wp_bnd _ (c_fails σ _) ?_
  rintro r s2 ⟨rfl, w1, w2⟩
  exact iEq0 (fun _ => wp_rtz (Or.inl rfl) ⟨Or.inl ⟨rfl, by omega, w1⟩, w2⟩) (fun g => absurd rfl g)
theorem ClQ.f1 (h : ClQ LS m σ) (g : Fr1 σ σ') : ClQ LS m σ' := by
  obtain ⟨h1, h2, h3, h4⟩ := h
  have e : ∀ k j, k ≠ 1 ∨ j ≤ 3 → σ' k j = σ k j := fun k j hk => by have := g k j; omega
  obtain ⟨t1, t2, t3⟩ := tab_mv h1 (σ' := σ') (e _ _ (by omega)) (e _ _ (by omega)) (fun j => e _ _ (by omega)) (fun j => e _ _ (by omega))
  refine ⟨t1, by rw [e _ _ (by omega)]; exact h2, h3, fun k hk => ?_⟩
  rw [t3]
  have hq := h1.2.2.1 k (by omega)
  exact (h4 k hk).mv (fun k' j' a b => e _ _ (by omega))
theorem Fr1.frq (g : Fr1 σ σ') : FrQ σ σ' := fun k j => by have := g k j; omega
theorem c_begin (hTab : Tab σ) (g1 : σ 1 1 = (N : Int)) (g2 : ∀ i, i < N → σ 2 i = z i) : wp (fX5_begin fu σ) (fun _ σ' => TxC z N 0 σ' ∧ ClQ lnZ 0 σ' ∧ FrQ σ σ') := by
  unfold fX5_begin
  have hfr : FrQ σ (mset (mset σ 1 5 0) 1 3 0) := ((FrQ.refl σ).s1 (by omega)).s1 (by omega)
  refine wp_stf (wp_stf (wp_some ⟨⟨?_, fun i hi => ?_, ?_⟩, ⟨(hfr.tab hTab).1, ms_eq _ _ _ _, by omega, fun k hk => by omega⟩, hfr⟩))
  · rw [ms_j (by omega), ms_j (by omega)]; exact g1
  · rw [ms_k (by omega), ms_k (by omega)]; exact g2 i hi
  · rw [ms_j (by omega), ms_eq]; rfl
/-- the end behind the lines -/
theorem c_rends {r : Int × Nat × (Nat → zLn) × Nat} (h : TxZ z N) (e : r.1 = -1) (hT : TxC z N r.2.1 σ) (ha : r.2.1 ≤ N) (hQ : ClQ r.2.2.1 r.2.2.2 σ) : wp (fX5_readsEnd fu σ) (fun y σ' => ((y = 0 ∧ (enE N r).1 ≠ -1 ∧ σ' 1 4 = (enE N r).1) ∨ (y = 1 ∧ (enE N r).1 = -1 ∧ ClQ (enE N r).2.1 (enE N r).2.2 σ')) ∧ FrQ σ σ') := by
  refine wp_imp (c_rend h hT ha) ?_
  rintro y s' ⟨g, f⟩
  refine ⟨?_, f.frq⟩
  rcases g with ⟨rfl, g, g'⟩ | ⟨rfl, g, rfl⟩
  · have ee : enE N r = ((r.2.1 : Int), r.2.2.1, r.2.2.2) := by unfold enE; rw [if_neg (fun q => q e), if_pos g]
    rw [ee]
    exact Or.inl ⟨rfl, by show (r.2.1 : Int) ≠ -1; omega, g'⟩
  · have ee : enE N r = (-1, r.2.2.1, r.2.2.2) := by unfold enE; rw [if_neg (fun q => q e), if_neg (fun q => q g)]
    rw [ee]
    exact Or.inr ⟨rfl, rfl, hQ⟩
theorem c_lines (h : TxZ z N) (hfu : 1000 < fu) (hTab : Tab σ) (g1 : σ 1 1 = (N : Int)) (g2 : ∀ i, i < N → σ 2 i = z i) : wp (fX5_readsLines fu σ) (fun r σ' => ((r = 0 ∧ (netE z N).1 ≠ -1 ∧ σ' 1 4 = (netE z N).1) ∨ (r = 1 ∧ (netE z N).1 = -1 ∧ ClQ (netE z N).2.1 (netE z N).2.2 σ')) ∧ FrQ σ σ') := by
  have hN := h.1
  unfold fX5_readsLines
  refine wp_bnd _ (c_begin hTab g1 g2) ?_
  rintro _ s1 ⟨hT1, hQ1, hfr1⟩
  rw [hT1.1]
  refine iNe0 (fun g => ?_) (fun g => ?_)
  · refine wp_bnd _ (c_line (room := 12) h hfu hT1 (by omega) hQ1 (by omega)) ?_
    rintro r s2 ⟨q2, f2⟩
    have hfr2 : FrQ σ s2 := FrQ.tr hTab hfr1 f2
    rcases q2 with ⟨rfl, q2, q2'⟩ | ⟨rfl, q2, q2', q2''⟩
    · have ee : netE z N = (rlW z 0 0 12, lnZ, 0) := by unfold netE; rw [if_neg (by omega), if_pos q2]
      obtain ⟨f1, rfl⟩ : ∃ f1, fu = f1 + 1 := ⟨fu - 1, by omega⟩
      rw [fX5_readsLines_L22, ee]
      refine iLt (fun g => by omega) (fun _ => ?_)
      refine iEq0 (fun _ => ?_) (fun g => absurd rfl g)
      refine wp_jn (wp_jn (iEq0 (fun _ => ?_) (fun g => absurd rfl g)))
      exact wp_rtz (Or.inl rfl) ⟨Or.inl ⟨rfl, q2, q2'⟩, hfr2⟩
    · have ee : netE z N = enE N (rlsL z 12 (rlA z 0) (adL z 0 lnZ 0) (adM z 0 0)) := by unfold netE; rw [if_neg (by omega), if_neg (fun q => q q2)]
      rw [ee]
      refine c_linesL h hfu hTab 12 fu (rlA z 0) (adL z 0 lnZ 0) (adM z 0 0) s2 (by omega) (by omega) (f2.tx hQ1.1 hT1 q2') (rlL_ok h q2).2 q2'' hfr2 ?_ ?_
      · intro s' e1 e2 e3
        refine wp_jn (wp_jn (iEq0 (fun _ => ?_) (fun g => absurd rfl g)))
        have e4 : enE N (rlsL z 12 (rlA z 0) (adL z 0 lnZ 0) (adM z 0 0)) = ((rlsL z 12 (rlA z 0) (adL z 0 lnZ 0) (adM z 0 0)).1, (rlsL z 12 (rlA z 0) (adL z 0 lnZ 0) (adM z 0 0)).2.2) := if_pos e1
        rw [e4]
        exact wp_rtz (Or.inl rfl) ⟨Or.inl ⟨rfl, e1, e2⟩, e3⟩
      · intro s' e1 e2 e3 e4 e5
        refine wp_jn (wp_jn (iEq0 (fun g => by omega) (fun _ => ?_)))
        refine wp_bnd _ (c_rends h e1 e2 e3 e4) ?_
        rintro y s'' ⟨y1, y2⟩
        have hf9 := FrQ.tr hTab e5 y2
        rcases y1 with ⟨rfl, y1⟩ | ⟨rfl, y1⟩
        · exact iEq0 (fun _ => wp_rtz (Or.inl rfl) ⟨Or.inl ⟨rfl, y1⟩, hf9⟩) (fun g => absurd rfl g)
        · exact iEq0 (fun g => by omega) (fun _ => wp_rtz (Or.inr rfl) ⟨Or.inr ⟨rfl, y1⟩, hf9⟩)
  · have ee : netE z N = (-1, lnZ, 0) := by unfold netE; rw [if_pos (by omega)]
    rw [ee]
    exact wp_rtz (Or.inr rfl) ⟨Or.inr ⟨rfl, rfl, hQ1⟩, hfr1⟩
theorem c_one (h : TxZ z N) (hfu : 1000 < fu) (hTab : Tab σ) (g1 : σ 1 1 = (N : Int)) (g2 : ∀ i, i < N → σ 2 i = z i) (hr : room ≤ 12) : wp (fX5_readsOneLine fu (room : Int) σ) (fun r σ' => ((r = 0 ∧ (addE z N room).1 ≠ -1 ∧ σ' 1 4 = (addE z N room).1) ∨ (r = 1 ∧ (addE z N room).1 = -1 ∧ ClQ (addE z N room).2.1 (addE z N room).2.2 σ')) ∧ FrQ σ σ') := by
  have hN := h.1
  unfold fX5_readsOneLine
  refine wp_bnd _ (c_begin hTab g1 g2) ?_
  rintro _ s1 ⟨hT1, hQ1, hfr1⟩
  refine wp_bnd _ (c_line h hfu hT1 (by omega) hQ1 hr) ?_
  rintro r s2 ⟨q2, f2⟩
  have hfr2 : FrQ σ s2 := FrQ.tr hTab hfr1 f2
  refine wp_jn (wp_jn ?_)
  rcases q2 with ⟨rfl, q2, q2'⟩ | ⟨rfl, q2, q2', q2''⟩
  · have ee : addE z N room = (rlW z 0 0 room, lnZ, 0) := if_pos q2
    rw [ee]
    exact iEq0 (fun _ => wp_rtz (Or.inl rfl) ⟨Or.inl ⟨rfl, q2, q2'⟩, hfr2⟩) (fun g => absurd rfl g)
  · have ee : addE z N room = enE N (-1, rlA z 0, adL z 0 lnZ 0, adM z 0 0) := if_neg (fun q => q q2)
    rw [ee]
    refine iEq0 (fun g => by omega) (fun _ => ?_)
    refine wp_bnd _ (c_rends (r := (-1, rlA z 0, adL z 0 lnZ 0, adM z 0 0)) h rfl (f2.tx hQ1.1 hT1 q2') (rlL_ok h q2).2 q2'') ?_
    rintro y s'' ⟨y1, y2⟩
    have hf9 := FrQ.tr hTab hfr2 y2
    rcases y1 with ⟨rfl, y1⟩ | ⟨rfl, y1⟩
    · exact iEq0 (fun _ => wp_rtz (Or.inl rfl) ⟨Or.inl ⟨rfl, y1⟩, hf9⟩) (fun g => absurd rfl g)
    · exact iEq0 (fun g => by omega) (fun _ => wp_rtz (Or.inr rfl) ⟨Or.inr ⟨rfl, y1⟩, hf9⟩)
end CNET
