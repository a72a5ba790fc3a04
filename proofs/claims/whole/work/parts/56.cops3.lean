/-! ===== waits, worst, between, counts ===== -/
section COPS3
variable {V V' σ σ' : Mem} {c : Nat → Int} {t k j l p s fu : Nat} {a b v r : Int}
theorem div32_eq {a b : Int} (ha : R32 a) (hb : R32 b) (h1 : 1 ≤ b) : div32 a b = a.tdiv b := by
  unfold div32
  have hne : Int32.ofInt b ≠ -1 := by
    intro h
    have h2 : (Int32.ofInt b).toInt = (-1 : Int32).toInt := by rw [h]
    have h3 : (Int32.ofInt b).toInt = b := w32_id hb
    rw [h3] at h2
    have h4 : (-1 : Int32).toInt = -1 := by decide +kernel
    omega
  rw [Int32.toInt_div_of_ne_right _ _ hne]
  have h3 : (Int32.ofInt b).toInt = b := w32_id hb
  have h5 : (Int32.ofInt a).toInt = a := w32_id ha
  rw [h3, h5]
theorem mset_back (V : Mem) (k j : Nat) (a : Int) : mset (mset V k j a) k j (V k j) = V := by
  funext x y
  rw [mset_eq, mset_eq]
  by_cases e : x = k ∧ y = j
  · rw [if_pos e, e.1, e.2]
  · rw [if_neg e, if_neg e]
theorem op_wait (h : OkA t V) (hfu : 1000 < fu) (ha : R32 a) : Op t V (fX6_wait fu a) (fX7_wait fu a) := by
  have hgl := h.1.go
  have hW := h.1.W
  have hW2 := h.1.2.1
  by_cases hc : 0 ≤ a ∧ a < 10
  · obtain ⟨s, rfl⟩ := Int.eq_ofNat_of_zero_le hc.1
    have hs : s < 10 := by omega
    have hv := cv_b h.1 s
    have hfs := fs_b (c := cv V) (s := s) h.1
    have hpos : s ≠ gl V → 0 ≤ cv V s → 1 ≤ fs V (cv V) s := fun g1 g2 => (fs_pos h.1 (cv_ok h.1) hs g1 g2 (cv_fix h.1 hs)).1
    refine op_same h (if s = gl V ∨ cv V s < 0 then -2 else 60 * V 328 10 / fs V (cv V) s) (fun σ hC => ?_) (fun σ hR => ?_)
    · unfold fX6_wait
      refine wp_bnd _ (c_isStop fu σ ha) ?_
      rintro x s' ⟨h0, h1, rfl⟩
      refine iNe0 (fun _ => ?_) (fun h => by omega)
      refine wp_bnd _ (c_find h hfu hC) ?_
      intro _ s2 ⟨d1, d2, d3, d4⟩
      refine wp_jn ?_
      rw [d2.1.2.2.2.1]
      refine iEq (fun g => wp_some ⟨by rw [if_pos (by omega)], d4⟩) (fun g1 => ?_)
      refine rS s rfl hs ?_
      rw [(d1.1 s hs).1]
      refine iNe (fun g2 => ?_) (fun g => wp_some ⟨by rw [if_pos (by omega)], d4⟩)
      have hp := hpos (by omega) (by omega)
      unfold fX2_waitingWeight
      rw [bnd_eq, d2.1.2.2.1, w32_sm (x := V 328 10) (by omega) (by omega)]
      refine rS s rfl hs ?_
      rw [(d1.1 s hs).2.2.1, w32_sm (by omega) (by omega), parts_pos fu s2 ⟨by omega, by omega⟩ hW.1 ⟨by omega, by omega⟩ hp, bnd_eq]
      exact wp_some ⟨by rw [if_neg (by omega)], d4⟩
    · unfold fX7_wait
      refine wp_stf ?_
      refine wp_bnd _ (r_isStop fu _ ha) ?_
      rintro x s' ⟨h0, h1, rfl⟩
      refine iNe0 (fun _ => ?_) (fun h => by omega)
      refine wp_bnd _ (r_lays h hfu hR.s20) ?_
      intro _ s2 ⟨d1, d2, d3, d4⟩
      have hrp := (rp20 σ 0).trans d4
      refine wp_jn (wp_jn ?_)
      rw [d2.1.j (by omega), d2.1.j (by omega)]
      refine iEq (fun g => wp_some ⟨by rw [if_pos (by omega)], hrp⟩) (fun g1 => ?_)
      refine rI s rfl hs ?_
      rw [(d1.1 s hs).1]
      refine jLe (fun g2 => ?_) (fun g => wp_some ⟨by rw [if_pos (by omega)], hrp⟩)
      have hp := hpos (by omega) (by omega)
      refine rI s rfl hs ?_
      rw [(d1.1 s hs).2.2.1]
      refine wp_dv32 ⟨by omega, by omega⟩ (by omega) ?_
      rw [div32_eq ⟨by omega, by omega⟩ ⟨by omega, by omega⟩ hp, Int.tdiv_eq_ediv_of_nonneg hW.1]
      exact wp_some ⟨by rw [if_neg (by omega)], hrp⟩
  · refine op_same h (-1) (fun σ hC => ?_) (fun σ hR => ?_)
    · unfold fX6_wait
      refine wp_bnd _ (c_isStop fu σ ha) ?_
      rintro x s' ⟨h0, h1, rfl⟩
      exact iNe0 (fun _ => by omega) (fun h => wp_some ⟨rfl, CP.refl σ⟩)
    · unfold fX7_wait
      refine wp_stf ?_
      refine wp_bnd _ (r_isStop fu _ ha) ?_
      rintro x s' ⟨h0, h1, rfl⟩
      exact iNe0 (fun _ => by omega) (fun h => wp_some ⟨rfl, rp20 σ 0⟩)
noncomputable def wsF (V : Mem) : Nat → Int × Int
  | 0 => (-1, 0)
  | i + 1 => if i ≠ gl V ∧ (wsF V i).2 < cv V i then ((i : Int), cv V i) else wsF V i
theorem wsF_inv : ∀ i, ((wsF V i).1 = -1 ∧ (wsF V i).2 = 0) ∨ ∃ q : Nat, q < i ∧ (wsF V i).1 = (q : Int) ∧ (wsF V i).2 = cv V q ∧ 0 ≤ cv V q := by
  intro i
  induction i with
  | zero => exact Or.inl ⟨rfl, rfl⟩
  | succ i ih =>
    have h0 : 0 ≤ (wsF V i).2 := by
      rcases ih with ⟨_, e⟩ | ⟨q, _, _, e, e2⟩
      · omega
      · omega
    simp only [wsF]
    split
    · rename_i g
      exact Or.inr ⟨i, by omega, rfl, rfl, by omega⟩
    · rcases ih with e | ⟨q, e1, e2⟩
      · exact Or.inl e
      · exact Or.inr ⟨q, by omega, e2⟩
theorem wsF_keep {i : Nat} (h : ¬ (i ≠ gl V ∧ (wsF V i).2 < cv V i)) : wsF V (i + 1) = wsF V i := if_neg h
theorem wsF_take {i : Nat} (h : i ≠ gl V ∧ (wsF V i).2 < cv V i) : wsF V (i + 1) = ((i : Int), cv V i) := if_pos h
theorem op_worst (h : OkA t V) (hfu : 1000 < fu) : Op t V (fX6_worst fu) (fX7_worst fu) := by
  have hgl := h.1.go
  have hcc : ∀ (σ : Mem), ClsA V σ → ∀ (Q : Int → Mem → Prop) (K : Int → Int → Mem → PR), (∀ s2, CostC V s2 → ClsA V s2 → Hi σ s2 → CP σ s2 → wp (K (wsF V 10).1 (wsF V 10).2 s2) Q) → wp (bnd (fX2_findCosts fu σ) (fun _ s1 => fX6_worst_L13 fu K fu (-1) 0 0 s1)) Q := by
    intro σ hC Q K hK
    refine wp_bnd _ (c_find h hfu hC) ?_
    intro _ s2 ⟨d1, d2, d3, d4⟩
    refine for3 (f := fX6_worst_L13 fu K) 10 (fun i x y s => x = (wsF V i).1 ∧ y = (wsF V i).2 ∧ s2 = s) ?_ ?_ (i := 0) ⟨rfl, rfl, rfl⟩
    · rintro n i x y s hi ⟨rfl, rfl, rfl⟩ hrec
      have hv := cv_b h.1 i
      have hw : -1 ≤ (wsF V i).2 ∧ (wsF V i).2 ≤ 17800000 := by
        rcases wsF_inv (V := V) i with e | ⟨q, _, _, e, _⟩
        · omega
        · have := cv_b h.1 q; omega
      rw [fX6_worst_L13, d2.1.2.2.2.1]
      refine iLe (fun h => by omega) (fun _ => ?_)
      refine wp_jn ?_
      refine iEq (fun g => hrec _ _ _ ?_) (fun g1 => ?_)
      · rw [wsF_keep (by omega)]; exact ⟨rfl, rfl, rfl⟩
      · refine rS i rfl hi ?_
        rw [(d1.1 i hi).1]
        refine iLe (fun g => hrec _ _ _ ?_) (fun g2 => ?_)
        · rw [wsF_keep (by omega)]; exact ⟨rfl, rfl, rfl⟩
        · refine rS i rfl hi (wp_lt ?_)
          rw [(d1.1 i hi).1]
          refine hrec _ _ _ ?_
          rw [wsF_take (by omega)]; exact ⟨rfl, rfl, rfl⟩
    · rintro n x y s ⟨rfl, rfl, rfl⟩
      rw [fX6_worst_L13]
      exact iLe (fun _ => hK s2 d1 d2 d3 d4) (fun h => by omega)
  have hrr : ∀ (σ : Mem), RefA V σ → ∀ (Q : Int → Mem → Prop) (K : Int → Mem → PR), (∀ s2, CostR V s2 → RefA V s2 → Lo σ s2 → RP σ s2 → wp (K (wsF V 10).1 s2) Q) → wp (bnd (fX7_laysCosts fu σ) (fun _ s1 => fX7_worst_L13 fu K fu (-1) 0 s1)) Q := by
    intro σ hC Q K hK
    refine wp_bnd _ (r_lays h hfu hC) ?_
    intro _ s2 ⟨d1, d2, d3, d4⟩
    refine for2 (f := fX7_worst_L13 fu K) 10 (fun i x s => x = (wsF V i).1 ∧ s2 = s) ?_ ?_ (i := 0) ⟨rfl, rfl⟩
    · rintro n i x s hi ⟨rfl, rfl⟩ hrec
      have hv := cv_b h.1 i
      have hinv := wsF_inv (V := V) i
      rw [fX7_worst_L13, d2.1.j (by omega)]
      refine iLe (fun h => by omega) (fun _ => ?_)
      refine wp_jn ?_
      refine iEq (fun g => hrec _ _ ?_) (fun g1 => ?_)
      · rw [wsF_keep (by omega)]; exact ⟨rfl, rfl⟩
      · refine rI i rfl hi ?_
        rw [(d1.1 i hi).1]
        refine jLt (fun g => hrec _ _ ?_) (fun g2 => ?_)
        · rw [wsF_keep (by rcases hinv with e | ⟨q, _, _, e, _⟩ <;> omega)]
          exact ⟨rfl, rfl⟩
        · have hp := cv_posv h.1 hi (by omega) g2
          refine wp_jn ?_
          rcases hinv with e | ⟨q, e0, e1, e2, e3⟩
          · rw [e.1]
            refine iEq (fun _ => hrec _ _ ?_) (fun h => by omega)
            rw [wsF_take (by omega)]; exact ⟨rfl, rfl⟩
          · have hvq := cv_b h.1 q
            rw [e1]
            refine iEq (fun h => by omega) (fun _ => ?_)
            refine rI i rfl hi (rI q rfl (by omega) ?_)
            rw [(d1.1 i hi).1, (d1.1 q (by omega)).1]
            refine jLe (fun g => hrec _ _ ?_) (fun g => hrec _ _ ?_)
            · rw [wsF_keep (by omega)]; exact ⟨e1.symm, rfl⟩
            · rw [wsF_take (by omega)]; exact ⟨rfl, rfl⟩
    · rintro n x s ⟨rfl, rfl⟩
      rw [fX7_worst_L13]
      exact iLe (fun _ => hK s2 d1 d2 d3 d4) (fun h => by omega)
  rcases wsF_inv (V := V) 10 with e | ⟨q, e0, e1, e2, e3⟩
  · refine op_same h (-2) (fun σ hC => ?_) (fun σ hR => ?_)
    · unfold fX6_worst
      refine hcc σ hC _ _ (fun s2 d1 d2 d3 d4 => ?_)
      rw [e.1]
      exact iNe (fun h => by omega) (fun _ => wp_some ⟨rfl, d4⟩)
    · unfold fX7_worst
      refine wp_stf ?_
      refine hrr _ hR.s20 _ _ (fun s2 d1 d2 d3 d4 => ?_)
      rw [e.1]
      exact iNe (fun h => by omega) (fun _ => wp_some ⟨rfl, (rp20 σ 0).trans d4⟩)
  · have hvq := cv_b h.1 q
    refine ⟨(q : Int), row1 V (cv V q), (row1_ok h).up, fun σ hC => ?_, fun σ hR => ?_⟩
    · unfold fX6_worst
      refine hcc σ hC _ _ (fun s2 d1 d2 d3 d4 => ?_)
      rw [e1, e2]
      refine iNe (fun _ => ?_) (fun h => by omega)
      rw [w32_sm (by omega) (by omega)]
      refine wp_bnd _ (c_putOne fu h.1 d2) ?_
      intro _ s3 ⟨q1, q2, q3⟩
      exact wp_some ⟨rfl, q1, d3.trans q2⟩
    · unfold fX7_worst
      refine wp_stf ?_
      refine hrr _ hR.s20 _ _ (fun s2 d1 d2 d3 d4 => ?_)
      rw [e1]
      refine iNe (fun _ => ?_) (fun h => by omega)
      refine wp_stf ?_
      refine rI q rfl (by omega) ?_
      rw [ms_k (by omega), (d1.1 q (by omega)).1]
      refine wp_bnd _ (r_tell fu (by rw [emp_19]; omega) (r_emp d2)) ?_
      intro _ s3 ⟨q1, q2, q3⟩
      exact wp_some ⟨rfl, q1, ((lo20 σ 0).trans (lo19 d3 0)).trans q2⟩
theorem OkA.setN' (h : OkA t V) (hf : (j = 10 ∧ 1 ≤ a ∧ a ≤ 100) ∨ (j = 11 ∧ 0 ≤ a ∧ a ≤ 9) ∨ (j = 12 ∧ 0 ≤ a ∧ a ≤ 9999)) : OkA t (mset V 328 j a) :=
  ⟨okn_setN h.1 hf, by rw [ms_j (by omega)]; exact h.2.1, ⟨by rw [ms_j (by omega)]; exact h.2.2.1.1, by rw [ms_j (by omega)]; exact h.2.2.1.2.1, st_set h.2.2.1.2.2 (by omega) (by omega) (by omega) (by omega)⟩, by rw [ms_j (by omega)]; exact h.2.2.2.1, by rw [ms_j (by omega)]; exact h.2.2.2.2⟩
theorem op_between (h : OkA t V) (hfu : 1000 < fu) (ha : R32 a) (hb : R32 b) : Op t V (fX6_between fu a b) (fX7_between fu a b) := by
  by_cases hc : (0 ≤ a ∧ a < 10) ∧ 0 ≤ b ∧ b < 10
  · obtain ⟨s, rfl⟩ := Int.eq_ofNat_of_zero_le hc.1.1
    have hs : s < 10 := by omega
    have h1' := h.setN' (j := 11) (a := b) (by omega)
    have hback := mset_back V 328 11 b
    generalize hV1 : mset V 328 11 b = V1 at *
    have hv := cv_b h1'.1 s
    have hr := (rv_is h1'.1).1
    have hcc : ∀ (σ : Mem), ClsA V σ → ∀ (Q : Int → Mem → Prop) (K : Mem → PR), (∀ s2, s2 (283 + 4 * s) 2 = cv V1 s → s2 136 7 = (rdv V1 : Int) + 1 → ClsA V s2 → Hi σ s2 → wp (K s2) Q) → wp (stf σ 136 4 b (fun s4 => bnd (fX2_findCosts fu s4) (fun _ s5 => stf s5 136 4 (σ 136 4) K))) Q := by
      intro σ hC Q K hK
      refine wp_stf ?_
      have hC1 : ClsA V1 (mset σ 136 4 b) := by rw [← hV1]; exact clsA_setN hC h.1 (by omega)
      refine wp_bnd _ (c_find h1' hfu hC1) ?_
      intro _ s2 ⟨d1, d2, d3, d4⟩
      refine wp_stf ?_
      rw [hC.1.2.2.2.1]
      refine hK _ ?_ ?_ ?_ ?_
      · rw [ms_k (by omega)]; exact (d1.1 s hs).1
      · rw [ms_j (by omega)]; exact d1.2.2
      · have := clsA_setN (j := 11) (f := 4) (a := V 328 11) d2 h1'.1 (by omega)
        rw [hback] at this
        exact this
      · exact (((Hi.refl σ).set (by omega)).trans d3).set (by omega)
    have hrr : ∀ (σ : Mem), RefA V σ → ∀ (Q : Int → Mem → Prop) (K : Mem → PR), (∀ s2, s2 346 s = cv V1 s → s2 328 36 = (rdv V1 : Int) + 1 → RefA V s2 → Lo σ s2 → wp (K s2) Q) → wp (stf σ 328 11 b (fun s4 => bnd (fX7_laysCosts fu s4) (fun _ s5 => stf s5 328 11 (σ 328 11) K))) Q := by
      intro σ hR Q K hK
      refine wp_stf ?_
      have hR1 : RefA V1 (mset σ 328 11 b) := by rw [← hV1]; exact hR.set
      refine wp_bnd _ (r_lays h1' hfu hR1) ?_
      intro _ s2 ⟨d1, d2, d3, d4⟩
      refine wp_stf ?_
      rw [hR.1.j (by omega)]
      refine hK _ ?_ ?_ ?_ ?_
      · rw [ms_k (by omega)]; exact (d1.1 s hs).1
      · rw [ms_j (by omega)]; exact d1.2.2
      · have := d2.set (k := 328) (j := 11) (a := V 328 11)
        rw [hback] at this
        exact this
      · exact (((Lo.refl σ).set (by omega)).trans d3).set (by omega)
    by_cases hd : 0 ≤ cv V1 s
    · refine ⟨cv V1 s, row1 V ((rdv V1 : Int) + 1), (row1_ok h).up, fun σ hC => ?_, fun σ hR => ?_⟩
      · unfold fX6_between
        refine wp_bnd _ (c_isStop fu σ ha) ?_
        rintro x s' ⟨h0, h1, rfl⟩
        refine wp_jn (iEq0 (fun h => by omega) (fun _ => ?_))
        refine wp_bnd _ (c_isStop fu σ hb) ?_
        rintro x s' ⟨g0, g1, rfl⟩
        refine iNe0 (fun _ => ?_) (fun h => by omega)
        refine wp_lt (hcc σ hC _ _ (fun s2 d1 d2 d3 d4 => ?_))
        refine rS s rfl hs (wp_lt ?_)
        rw [d1, d2]
        refine iNe (fun _ => ?_) (fun h => by omega)
        rw [w32_sm (by omega) (by omega)]
        refine wp_bnd _ (c_putOne fu h.1 d3) ?_
        intro _ s3 ⟨q1, q2, q3⟩
        exact wp_some ⟨rfl, q1, d4.trans q2⟩
      · unfold fX7_between
        refine wp_stf ?_
        refine wp_bnd _ (r_isStop fu _ ha) ?_
        rintro x s' ⟨h0, h1, rfl⟩
        refine wp_jn (iEq0 (fun h => by omega) (fun _ => ?_))
        refine wp_bnd _ (r_isStop fu _ hb) ?_
        rintro x s' ⟨g0, g1, rfl⟩
        refine iNe0 (fun _ => ?_) (fun h => by omega)
        refine wp_lt (hrr _ hR.s20 _ _ (fun s2 d1 d2 d3 d4 => ?_))
        refine rI s rfl hs ?_
        rw [d1]
        refine jLe (fun _ => ?_) (fun h => by omega)
        refine wp_stf ?_
        rw [ms_j (by omega), d2, w32_sm (by omega) (by omega)]
        refine wp_bnd _ (r_tell fu (by rw [emp_19]; omega) (r_emp d3)) ?_
        intro _ s3 ⟨q1, q2, q3⟩
        refine rI s rfl hs ?_
        rw [q3 _ _ (by omega) (by omega), ms_k (by omega)]
        exact wp_some ⟨d1, q1, ((lo20 σ 0).trans (lo19 d4 0)).trans q2⟩
    · refine ⟨-2, V, h.up, fun σ hC => ?_, fun σ hR => ?_⟩
      · unfold fX6_between
        refine wp_bnd _ (c_isStop fu σ ha) ?_
        rintro x s' ⟨h0, h1, rfl⟩
        refine wp_jn (iEq0 (fun h => by omega) (fun _ => ?_))
        refine wp_bnd _ (c_isStop fu σ hb) ?_
        rintro x s' ⟨g0, g1, rfl⟩
        refine iNe0 (fun _ => ?_) (fun h => by omega)
        refine wp_lt (hcc σ hC _ _ (fun s2 d1 d2 d3 d4 => ?_))
        refine rS s rfl hs (wp_lt ?_)
        rw [d1]
        exact iNe (fun _ => by omega) (fun h => wp_some ⟨rfl, d3, d4⟩)
      · unfold fX7_between
        refine wp_stf ?_
        refine wp_bnd _ (r_isStop fu _ ha) ?_
        rintro x s' ⟨h0, h1, rfl⟩
        refine wp_jn (iEq0 (fun h => by omega) (fun _ => ?_))
        refine wp_bnd _ (r_isStop fu _ hb) ?_
        rintro x s' ⟨g0, g1, rfl⟩
        refine iNe0 (fun _ => ?_) (fun h => by omega)
        refine wp_lt (hrr _ hR.s20 _ _ (fun s2 d1 d2 d3 d4 => ?_))
        refine rI s rfl hs ?_
        rw [d1]
        exact jLe (fun _ => by omega) (fun h => wp_some ⟨rfl, d3, (lo20 σ 0).trans d4⟩)
  · refine op_same h (-1) (fun σ hC => ?_) (fun σ hR => ?_)
    · unfold fX6_between
      refine wp_bnd _ (c_isStop fu σ ha) ?_
      rintro x s' ⟨h0, h1, rfl⟩
      refine wp_jn (iEq0 (fun h => wp_some ⟨rfl, CP.refl σ⟩) (fun _ => ?_))
      refine wp_bnd _ (c_isStop fu σ hb) ?_
      rintro x s' ⟨g0, g1, rfl⟩
      exact iNe0 (fun _ => by omega) (fun h => wp_some ⟨rfl, CP.refl σ⟩)
    · unfold fX7_between
      refine wp_stf ?_
      refine wp_bnd _ (r_isStop fu _ ha) ?_
      rintro x s' ⟨h0, h1, rfl⟩
      refine wp_jn (iEq0 (fun h => wp_some ⟨rfl, rp20 σ 0⟩) (fun _ => ?_))
      refine wp_bnd _ (r_isStop fu _ hb) ?_
      rintro x s' ⟨g0, g1, rfl⟩
      exact iNe0 (fun _ => by omega) (fun h => wp_some ⟨rfl, rp20 σ 0⟩)
end COPS3
