/-! ===== small questions ===== -/
section SMALL
variable {V V' σ σ' : Mem} {t k j l s fu : Nat} {a b v : Int}
theorem c_hasLine (ok : OkN V) (hC : Cls V σ) (ha : R32 a) : wp (fX2_hasLine fu a σ) (fun r σ' => (r = 0 ∨ r = 1) ∧ (r = 1 ↔ 0 ≤ a ∧ a < V 328 9) ∧ σ = σ') := by
  have h9 := ok.1
  unfold fX2_hasLine
  rw [hC.2.1]
  refine wp_jn (wp_jn ?_)
  refine iLt0 (fun h => wp_rtz (Or.inl rfl) ⟨Or.inl rfl, by omega, rfl⟩) (fun h => ?_) ha
  exact iLe (fun h => wp_rtz (Or.inl rfl) ⟨Or.inl rfl, by omega, rfl⟩) (fun h => wp_rtz (Or.inr rfl) ⟨Or.inr rfl, by omega, rfl⟩)
theorem c_isStop (fu : Nat) (σ : Mem) (ha : R32 a) : wp (fX6_isStop fu a σ) (fun r σ' => (r = 0 ∨ r = 1) ∧ (r = 1 ↔ 0 ≤ a ∧ a < 10) ∧ σ = σ') := by
  unfold fX6_isStop
  refine wp_jn (wp_jn ?_)
  refine iLt0 (fun h => wp_rtz (Or.inl rfl) ⟨Or.inl rfl, by omega, rfl⟩) (fun h => ?_) ha
  exact iLe (fun h => wp_rtz (Or.inl rfl) ⟨Or.inl rfl, by omega, rfl⟩) (fun h => wp_rtz (Or.inr rfl) ⟨Or.inr rfl, by omega, rfl⟩)
theorem c_hasHalt (ok : OkN V) (hC : Cls V σ) (ha : R32 a) (hb : R32 b) : wp (fX2_hasHalt fu a b σ) (fun r σ' => (r = 0 ∨ r = 1) ∧ (r = 1 ↔ 0 ≤ a ∧ a < V 328 9 ∧ 0 ≤ b ∧ b < V 330 a.toNat) ∧ σ = σ') := by
  have hn := ok.n
  unfold fX2_hasHalt
  refine wp_bnd _ (c_hasLine ok hC ha) ?_
  rintro r s' ⟨h0, h1, rfl⟩
  refine wp_jn (wp_jn ?_)
  refine iEq0 (fun h => wp_rtz (Or.inl rfl) ⟨Or.inl rfl, by omega, rfl⟩) (fun h => ?_)
  have hr : 0 ≤ a ∧ a < V 328 9 := h1.mp (by omega)
  have hl : a.toNat < nn V := by omega
  have h8 := ok.len hl
  refine wp_rfd ?_
  refine rR a.toNat (by omega) (by omega) ?_
  rw [show pl (σ (pl (σ 136 0)) a.toNat) = PL σ a.toNat from rfl]
  have hL := hC.ln hl
  unfold fX1_isHalt
  rw [hL.2.1]
  refine wp_bnd (fun r s' => (r = 0 ∨ r = 1) ∧ (r = 1 ↔ 0 ≤ b ∧ b < V 330 a.toNat) ∧ σ = s') ?_ ?_
  · refine wp_jn (wp_jn ?_)
    refine iLt0 (fun h => wp_rtz (Or.inl rfl) ⟨Or.inl rfl, by omega, rfl⟩) (fun h => ?_) hb
    exact iLe (fun h => wp_rtz (Or.inl rfl) ⟨Or.inl rfl, by omega, rfl⟩) (fun h => wp_rtz (Or.inr rfl) ⟨Or.inr rfl, by omega, rfl⟩)
  · rintro r s' ⟨g0, g1, rfl⟩
    exact iEq0 (fun h => wp_rtz (Or.inl rfl) ⟨Or.inl rfl, by omega, rfl⟩) (fun h => wp_rtz (Or.inr rfl) ⟨Or.inr rfl, by omega, rfl⟩)
theorem c_isStep (hP : isL k) {P : Nat} (ok : OkN V) (hl : l < nn V) (hL : LnAt V σ l P) (hb : R32 b) : wp (fX1_isStep fu P b σ) (fun r s' => (r = 0 ∨ r = 1) ∧ (r = 1 ↔ 0 ≤ b ∧ b < V 330 l - 1) ∧ σ = s') := by
  have h8 := ok.len hl
  unfold fX1_isStep
  rw [hL.2.1]
  refine wp_jn (wp_jn ?_)
  refine iLt0 (fun h => wp_rtz (Or.inl rfl) ⟨Or.inl rfl, by omega, rfl⟩) (fun h => ?_) hb
  exact iLe (fun h => wp_rtz (Or.inl rfl) ⟨Or.inl rfl, by omega, rfl⟩) (fun h => wp_rtz (Or.inr rfl) ⟨Or.inr rfl, by omega, rfl⟩)
theorem c_hasStep (ok : OkN V) (hC : Cls V σ) (ha : R32 a) (hb : R32 b) : wp (fX2_hasStep fu a b σ) (fun r σ' => (r = 0 ∨ r = 1) ∧ (r = 1 ↔ 0 ≤ a ∧ a < V 328 9 ∧ 0 ≤ b ∧ b < V 330 a.toNat - 1) ∧ σ = σ') := by
  have hn := ok.n
  unfold fX2_hasStep
  refine wp_bnd _ (c_hasLine ok hC ha) ?_
  rintro r s' ⟨h0, h1, rfl⟩
  refine wp_jn (wp_jn ?_)
  refine iEq0 (fun h => wp_rtz (Or.inl rfl) ⟨Or.inl rfl, by omega, rfl⟩) (fun h => ?_)
  have hr : 0 ≤ a ∧ a < V 328 9 := h1.mp (by omega)
  have hl : a.toNat < nn V := by omega
  refine wp_rfd ?_
  refine rR a.toNat (by omega) (by omega) ?_
  rw [show pl (σ (pl (σ 136 0)) a.toNat) = PL σ a.toNat from rfl]
  refine wp_bnd _ (c_isStep (hC.isL ok hl) ok hl (hC.ln hl) hb) ?_
  rintro r s' ⟨g0, g1, rfl⟩
  exact iEq0 (fun h => wp_rtz (Or.inl rfl) ⟨Or.inl rfl, by omega, rfl⟩) (fun h => wp_rtz (Or.inr rfl) ⟨Or.inr rfl, by omega, rfl⟩)
theorem r_isLine (ok : OkN V) (hR : Ref V σ) (ha : R32 a) : wp (fX7_isLine fu a σ) (fun r σ' => (r = 0 ∨ r = 1) ∧ (r = 1 ↔ 0 ≤ a ∧ a < V 328 9) ∧ σ = σ') := by
  have h9 := ok.1
  unfold fX7_isLine
  rw [hR.j (by omega), w32_id ha, w32_sm (x := V 328 9 - 1) (by omega) (by omega)]
  refine wp_bnd _ (r_in fu (by omega) (by omega) (by omega)) ?_
  rintro r s' ⟨h0, h1, rfl⟩
  exact wp_rtz h0 ⟨h0, by omega, rfl⟩
theorem r_isStop (fu : Nat) (σ : Mem) (ha : R32 a) : wp (fX7_isStop fu a σ) (fun r σ' => (r = 0 ∨ r = 1) ∧ (r = 1 ↔ 0 ≤ a ∧ a < 10) ∧ σ = σ') := by
  unfold fX7_isStop
  rw [w32_id ha]
  refine wp_bnd _ (r_in fu (by omega) (by omega) (by omega)) ?_
  rintro r s' ⟨h0, h1, rfl⟩
  exact wp_rtz h0 ⟨h0, by omega, rfl⟩
theorem r_isHalt (ok : OkN V) (hR : Ref V σ) (ha : R32 a) (hb : R32 b) : wp (fX7_isHalt fu a b σ) (fun r σ' => (r = 0 ∨ r = 1) ∧ (r = 1 ↔ 0 ≤ a ∧ a < V 328 9 ∧ 0 ≤ b ∧ b < V 330 a.toNat) ∧ σ = σ') := by
  have hn := ok.n
  unfold fX7_isHalt
  refine wp_bnd _ (r_isLine ok hR ha) ?_
  rintro r s' ⟨h0, h1, rfl⟩
  refine wp_jn (wp_jn ?_)
  refine iEq0 (fun h => wp_rtz (Or.inl rfl) ⟨Or.inl rfl, by omega, rfl⟩) (fun h => ?_)
  have hr : 0 ≤ a ∧ a < V 328 9 := h1.mp (by omega)
  have hl : a.toNat < nn V := by omega
  have h8 := ok.len hl
  refine rI a.toNat (by omega) (by omega) ?_
  rw [hR.2 330 _ (by omega) (by omega), w32_id hb, w32_sm (x := V 330 a.toNat - 1) (by omega) (by omega)]
  refine wp_bnd _ (r_in fu (by omega) (by omega) (by omega)) ?_
  rintro r s' ⟨g0, g1, rfl⟩
  exact iEq0 (fun h => wp_rtz (Or.inl rfl) ⟨Or.inl rfl, by omega, rfl⟩) (fun h => wp_rtz (Or.inr rfl) ⟨Or.inr rfl, by omega, rfl⟩)
theorem r_isStep (ok : OkN V) (hR : Ref V σ) (ha : R32 a) (hb : R32 b) : wp (fX7_isStep fu a b σ) (fun r σ' => (r = 0 ∨ r = 1) ∧ (r = 1 ↔ 0 ≤ a ∧ a < V 328 9 ∧ 0 ≤ b ∧ b < V 330 a.toNat - 1) ∧ σ = σ') := by
  have hn := ok.n
  unfold fX7_isStep
  refine wp_bnd _ (r_isLine ok hR ha) ?_
  rintro r s' ⟨h0, h1, rfl⟩
  refine wp_jn (wp_jn ?_)
  refine iEq0 (fun h => wp_rtz (Or.inl rfl) ⟨Or.inl rfl, by omega, rfl⟩) (fun h => ?_)
  have hr : 0 ≤ a ∧ a < V 328 9 := h1.mp (by omega)
  have hl : a.toNat < nn V := by omega
  have h8 := ok.len hl
  refine rI a.toNat (by omega) (by omega) ?_
  rw [hR.2 330 _ (by omega) (by omega), w32_id hb, w32_sm (x := V 330 a.toNat - 2) (by omega) (by omega)]
  refine wp_bnd _ (r_in fu (by omega) (by omega) (by omega)) ?_
  rintro r s' ⟨g0, g1, rfl⟩
  exact iEq0 (fun h => wp_rtz (Or.inl rfl) ⟨Or.inl rfl, by omega, rfl⟩) (fun h => wp_rtz (Or.inr rfl) ⟨Or.inr rfl, by omega, rfl⟩)
/-! ===== one place set, on both sides ===== -/
theorem Ref.set (h : Ref V σ) : Ref (mset V k j a) (mset σ k j a) := by
  refine ⟨fun i hi => ?_, fun x i h1 h2 => ?_⟩
  · rw [mset_eq, mset_eq, h.1 i hi]
  · rw [mset_eq, mset_eq, h.2 x i h1 h2]
theorem RefA.set (h : RefA V σ) : RefA (mset V k j a) (mset σ k j a) := by
  obtain ⟨h1, h2, h3, h4, h5, h6⟩ := h
  exact ⟨h1.set, fun s hs => by rw [mset_eq, mset_eq, h2 s hs], by rw [mset_eq, mset_eq, h3], fun i => by rw [mset_eq, mset_eq, h4], by rw [mset_eq, mset_eq, h5], fun i => by rw [mset_eq, mset_eq, h6]⟩
/-- a place of the net: 328 10, 11, 12 -/
theorem cls_setN (h : Cls V σ) (ok : OkN V) {f : Nat} (hf : (f = 3 ∧ j = 10) ∨ (f = 4 ∧ j = 11) ∨ (f = 5 ∧ j = 12)) : Cls (mset V 328 j a) (mset σ 136 f a) := by
  obtain ⟨h1, h2, h3, h4, h5, h6, h7, h8⟩ := h
  obtain ⟨t1, t2, t3⟩ := tab_mv h1 (σ' := mset σ 136 f a) (ms_j (by omega)) (ms_k (by omega)) (fun j => ms_k (by omega)) (fun j => ms_k (by omega))
  have hnn : nn (mset V 328 j a) = nn V := by unfold nn; rw [ms_j (by omega)]
  refine ⟨t1, by rw [ms_j (by omega), ms_j (by omega)]; exact h2, ?_, ?_, ?_, by rw [ms_j (by omega), ms_j (by omega)]; exact h6, fun s hs => by rw [ms_k (by omega), ms_k (by omega), ms_k (by omega), ms_k (by omega)]; exact h7 s hs, fun l hl => ?_⟩
  · rw [mset_eq, mset_eq, h3]; rcases hf with ⟨rfl, rfl⟩ | ⟨rfl, rfl⟩ | ⟨rfl, rfl⟩ <;> simp
  · rw [mset_eq, mset_eq, h4]; rcases hf with ⟨rfl, rfl⟩ | ⟨rfl, rfl⟩ | ⟨rfl, rfl⟩ <;> simp
  · rw [mset_eq, mset_eq, h5]; rcases hf with ⟨rfl, rfl⟩ | ⟨rfl, rfl⟩ | ⟨rfl, rfl⟩ <;> simp
  · rw [hnn] at hl
    have hP := h1.2.1 l (by have := ok.n; omega)
    have hx := h8 l hl
    rw [t2]
    unfold LnAt ln at hx ⊢
    simp (disch := omega) only [ms_k]
    exact hx
theorem okn_setN (ok : OkN V) (hf : (j = 10 ∧ 1 ≤ a ∧ a ≤ 100) ∨ (j = 11 ∧ 0 ≤ a ∧ a ≤ 9) ∨ (j = 12 ∧ 0 ≤ a ∧ a ≤ 9999)) : OkN (mset V 328 j a) := by
  obtain ⟨o1, o2, o3, o4, o5, o6⟩ := ok
  have hnn : nn (mset V 328 j a) = nn V := by unfold nn; rw [ms_j (by omega)]
  refine ⟨by rw [ms_j (by omega)]; exact o1, ?_, ?_, ?_, fun s hs => by rw [ms_k (by omega), ms_k (by omega)]; exact o5 s hs, fun l hl => ?_⟩
  · rw [mset_eq]; split <;> omega
  · rw [mset_eq]; split <;> omega
  · rw [mset_eq]; split <;> omega
  · rw [hnn] at hl
    have := o6 l hl
    unfold OkL ln at this ⊢
    simp (disch := omega) only [ms_k]
    exact this
/-- a stop's riders, a stop closed -/
theorem cls_setS (h : Cls V σ) (ok : OkN V) (hs : s < 10) {f : Nat} (hf : (f = 0 ∧ k = 338) ∨ (f = 1 ∧ k = 339)) : Cls (mset V k s a) (mset σ (283 + 4 * s) f a) := by
  obtain ⟨h1, h2, h3, h4, h5, h6, h7, h8⟩ := h
  obtain ⟨t1, t2, t3⟩ := tab_mv h1 (σ' := mset σ (283 + 4 * s) f a) (ms_k (by omega)) (ms_k (by omega)) (fun j => ms_k (by omega)) (fun j => ms_k (by omega))
  have hnn : nn (mset V k s a) = nn V := by unfold nn; rw [ms_k (by omega)]
  refine ⟨t1, by rw [ms_k (by omega), ms_k (by omega)]; exact h2, by rw [ms_k (by omega), ms_k (by omega)]; exact h3, by rw [ms_k (by omega), ms_k (by omega)]; exact h4, by rw [ms_k (by omega), ms_k (by omega)]; exact h5, by rw [ms_k (by omega), ms_k (by omega)]; exact h6, fun q hq => ?_, fun l hl => ?_⟩
  · have := h7 q hq
    rw [mset_eq, mset_eq, mset_eq, mset_eq, this.1, this.2]
    by_cases e : q = s
    · subst e
      rcases hf with ⟨rfl, rfl⟩ | ⟨rfl, rfl⟩ <;> simp
    · rw [if_neg (by omega), if_neg (by omega), if_neg (by omega), if_neg (by omega)]; exact ⟨rfl, rfl⟩
  · rw [hnn] at hl
    have hP := h1.2.1 l (by have := ok.n; omega)
    have hx := h8 l hl
    rw [t2]
    unfold LnAt ln at hx ⊢
    simp (disch := omega) only [ms_k]
    exact hx
theorem okn_setS (ok : OkN V) (hf : (k = 338 ∧ 0 ≤ a ∧ a ≤ 9999) ∨ (k = 339 ∧ (a = 0 ∨ a = 1))) : OkN (mset V k s a) := by
  obtain ⟨o1, o2, o3, o4, o5, o6⟩ := ok
  have hnn : nn (mset V k s a) = nn V := by unfold nn; rw [ms_k (by omega)]
  refine ⟨by rw [ms_k (by omega)]; exact o1, by rw [ms_k (by omega)]; exact o2, by rw [ms_k (by omega)]; exact o3, by rw [ms_k (by omega)]; exact o4, fun q hq => ?_, fun l hl => ?_⟩
  · have := o5 q hq
    rw [mset_eq, mset_eq]
    constructor
    · split
      · omega
      · exact this.1
    · split
      · omega
      · exact this.2
  · rw [hnn] at hl
    have := o6 l hl
    unfold OkL ln at this ⊢
    simp (disch := omega) only [ms_k]
    exact this
/-- a line's field -/
theorem cls_setL (h : Cls V σ) (ok : OkN V) (hl : l < nn V) {f : Nat} (hf : (f = 0 ∧ k = 329) ∨ (f = 2 ∧ k = 335) ∨ (f = 3 ∧ k = 336) ∨ (f = 4 ∧ k = 337)) : Cls (mset V k l a) (mset σ (PL σ l) f a) := by
  have hap : ∀ m, m < nn V → m ≠ l → PL σ m + 10 < PL σ l ∨ PL σ l + 10 < PL σ m := fun m hm e => h.apart ok hm hl e
  have hPl := h.isL ok hl
  obtain ⟨h1, h2, h3, h4, h5, h6, h7, h8⟩ := h
  obtain ⟨t1, t2, t3⟩ := tab_mv h1 (σ' := mset σ (PL σ l) f a) (ms_k (by omega)) (ms_k (by omega)) (fun j => ms_k (by omega)) (fun j => ms_k (by omega))
  have hnn : nn (mset V k l a) = nn V := by unfold nn; rw [ms_k (by omega)]
  refine ⟨t1, by rw [ms_k (by omega), ms_k (by omega)]; exact h2, by rw [ms_k (by omega), ms_k (by omega)]; exact h3, by rw [ms_k (by omega), ms_k (by omega)]; exact h4, by rw [ms_k (by omega), ms_k (by omega)]; exact h5, by rw [ms_k (by omega), ms_k (by omega)]; exact h6, fun q hq => by rw [ms_k (by omega), ms_k (by omega), ms_k (by omega), ms_k (by omega)]; exact h7 q hq, fun m hm => ?_⟩
  rw [hnn] at hm
  have hP := h1.2.1 m (by have := ok.n; omega)
  have hx := h8 m hm
  rw [t2]
  by_cases e : m = l
  · subst e
    unfold LnAt ln at hx ⊢
    rcases hf with ⟨rfl, rfl⟩ | ⟨rfl, rfl⟩ | ⟨rfl, rfl⟩ | ⟨rfl, rfl⟩
    all_goals
      simp (disch := omega) only [ms_k, ms_j, ms_eq]
      first | exact ⟨trivial, hx.2⟩ | exact ⟨hx.1, hx.2.1, trivial, hx.2.2.2⟩ | exact ⟨hx.1, hx.2.1, hx.2.2.1, trivial, hx.2.2.2.2⟩ | exact ⟨hx.1, hx.2.1, hx.2.2.1, hx.2.2.2.1, trivial, hx.2.2.2.2.2⟩
  · have := hap m hm e
    unfold LnAt ln at hx ⊢
    simp (disch := omega) only [ms_k, ms_j]
    exact hx
theorem okn_setL (ok : OkN V) (hl : l < nn V) (hf : (k = 329 ∧ 1 ≤ a ∧ a ≤ 60) ∨ (k = 335 ∧ 1 ≤ a ∧ a ≤ 999) ∨ (k = 336 ∧ 0 ≤ a ∧ a ≤ 59) ∨ (k = 337 ∧ (a = 0 ∨ a = 1))) : OkN (mset V k l a) := by
  obtain ⟨o1, o2, o3, o4, o5, o6⟩ := ok
  have hnn : nn (mset V k l a) = nn V := by unfold nn; rw [ms_k (by omega)]
  refine ⟨by rw [ms_k (by omega)]; exact o1, by rw [ms_k (by omega)]; exact o2, by rw [ms_k (by omega)]; exact o3, by rw [ms_k (by omega)]; exact o4, fun q hq => by rw [ms_k (by omega), ms_k (by omega)]; exact o5 q hq, fun m hm => ?_⟩
  rw [hnn] at hm
  have hx := o6 m hm
  by_cases e : m = l
  · subst e
    unfold OkL ln at hx ⊢
    rcases hf with ⟨rfl, g⟩ | ⟨rfl, g⟩ | ⟨rfl, g⟩ | ⟨rfl, g⟩
    all_goals
      simp (disch := omega) only [ms_k, ms_j, ms_eq]
      first | exact ⟨g, hx.2⟩ | exact ⟨hx.1, hx.2.1, g, hx.2.2.2⟩ | exact ⟨hx.1, hx.2.1, hx.2.2.1, g, hx.2.2.2.2⟩ | exact ⟨hx.1, hx.2.1, hx.2.2.1, hx.2.2.2.1, g, hx.2.2.2.2.2⟩
  · unfold OkL ln at hx ⊢
    simp (disch := omega) only [ms_k, ms_j]
    exact hx
/-- the text and the row stay -/
theorem ClsA.of {σ' : Mem} (h : ClsA V σ) (hc : Cls V' σ') (g : ∀ k j, k = 1 ∨ k = 2 ∨ k = 323 ∨ k = 324 → σ' k j = σ k j) (g2 : V' 328 17 = V 328 17) (g3 : V' 328 19 = V 328 19) (g4 : ∀ i, V' 340 i = V 340 i) (g5 : ∀ i, V' 341 i = V 341 i) : ClsA V' σ' := by
  refine ⟨hc, ⟨by rw [g _ _ (by omega), g2]; exact h.2.1.1, fun i hi => ?_⟩, ⟨by rw [g _ _ (by omega), g3]; exact h.2.2.1, fun i hi => ?_⟩⟩
  · rw [g2] at hi; rw [g _ _ (by omega), g4]; exact h.2.1.2 i hi
  · rw [g3] at hi; rw [g _ _ (by omega), g5]; exact h.2.2.2 i hi
end SMALL
