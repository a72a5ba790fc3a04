/-! ===== between two calls ===== -/
def TxtC (V σ : Mem) : Prop := σ 1 1 = V 328 17 ∧ ∀ i : Nat, (i : Int) < V 328 17 → σ 2 i = and32 (V 340 i) 255
def RowC (V σ : Mem) : Prop := σ 323 1 = V 328 19 ∧ ∀ i : Nat, (i : Int) < V 328 19 → σ 324 i = V 341 i
def ClsA (V σ : Mem) : Prop := Cls V σ ∧ TxtC V σ ∧ RowC V σ
def RefA (V σ : Mem) : Prop := Ref V σ ∧ (∀ s, s < 10 → σ 338 s = V 338 s) ∧ σ 328 17 = V 328 17 ∧ (∀ i, σ 340 i = V 340 i) ∧ σ 328 19 = V 328 19 ∧ (∀ i, σ 341 i = V 341 i)
/-- what a step takes, as it is told: two of them together are still within OkN -/
def StN (V : Mem) : Prop := ∀ l, l < nn V → ∀ p, p + 1 < ln V l → V 332 (8 * l + p) ≤ 99 ∧ V 333 (8 * l + p) ≤ 100000
def OkA (t : Nat) (V : Mem) : Prop := OkN V ∧ V 328 37 = -1 ∧ (0 ≤ V 328 13 ∧ V 328 13 ≤ 200 * (t : Int) ∧ StN V) ∧ (0 ≤ V 328 17 ∧ V 328 17 ≤ 400) ∧ (0 ≤ V 328 19 ∧ V 328 19 ≤ 16)
def Lo (σ σ' : Mem) : Prop := ∀ k j, k < 328 → σ' k j = σ k j
def Hi (σ σ' : Mem) : Prop := ∀ k j, 328 ≤ k → σ' k j = σ k j
def AgN (V V' : Mem) : Prop := (∀ j, j = 9 ∨ j = 10 ∨ j = 11 ∨ j = 12 ∨ j = 13 ∨ j = 37 → V' 328 j = V 328 j) ∧ ∀ k j, 329 ≤ k → k ≤ 339 → V' k j = V k j
section INV
variable {V V' σ σ' σ'' : Mem} {t k j : Nat} {a b v : Int}
theorem Lo.refl (σ : Mem) : Lo σ σ := fun _ _ _ => rfl
theorem Hi.refl (σ : Mem) : Hi σ σ := fun _ _ _ => rfl
theorem Lo.trans (h : Lo σ σ') (g : Lo σ' σ'') : Lo σ σ'' := fun k j hk => (g k j hk).trans (h k j hk)
theorem Hi.trans (h : Hi σ σ') (g : Hi σ' σ'') : Hi σ σ'' := fun k j hk => (g k j hk).trans (h k j hk)
theorem Hi.set (h : Hi σ σ') (hk : k < 328) : Hi σ (mset σ' k j v) := fun a b ha => by rw [ms_k (by omega)]; exact h a b ha
theorem Lo.set (h : Lo σ σ') (hk : 328 ≤ k) : Lo σ (mset σ' k j v) := fun a b ha => by rw [ms_k (by omega)]; exact h a b ha
theorem CP.hi (h : CP σ σ') : Hi σ σ' := fun k j hk => h.at (by omega)
theorem RP.lo (h : RP σ σ') : Lo σ σ' := fun k j hk => h.at (by omega)
theorem AgN.refl (V : Mem) : AgN V V := ⟨fun _ _ => rfl, fun _ _ _ _ => rfl⟩
theorem AgN.nn (h : AgN V V') : nn V' = nn V := by unfold Jvm.Pilot.CLineChoiceLaw_law_r7493_bfe8e6.nn; rw [h.1 9 (by omega)]
theorem AgN.ln (h : AgN V V') (l : Nat) : ln V' l = ln V l := by unfold Jvm.Pilot.CLineChoiceLaw_law_r7493_bfe8e6.ln; rw [h.2 330 l (by omega) (by omega)]
theorem AgN.ok (h : AgN V V') (ok : OkN V) : OkN V' := by
  obtain ⟨o1, o2, o3, o4, o5, o6⟩ := ok
  refine ⟨by rw [h.1 9 (by omega)]; exact o1, by rw [h.1 10 (by omega)]; exact o2, by rw [h.1 11 (by omega)]; exact o3, by rw [h.1 12 (by omega)]; exact o4, fun s hs => by rw [h.2 338 s (by omega) (by omega), h.2 339 s (by omega) (by omega)]; exact o5 s hs, fun l hl => ?_⟩
  have := o6 l (by rw [← h.nn]; exact hl)
  unfold OkL at this ⊢
  rw [h.ln]
  simp only [h.2 329 _ (by omega) (by omega), h.2 330 _ (by omega) (by omega), h.2 331 _ (by omega) (by omega), h.2 332 _ (by omega) (by omega), h.2 333 _ (by omega) (by omega), h.2 334 _ (by omega) (by omega), h.2 335 _ (by omega) (by omega), h.2 336 _ (by omega) (by omega), h.2 337 _ (by omega) (by omega)]
  exact this
theorem AgN.st (h : AgN V V') (g : StN V) : StN V' := by
  intro l hl p hp
  rw [h.nn] at hl
  rw [h.ln] at hp
  rw [h.2 332 _ (by omega) (by omega), h.2 333 _ (by omega) (by omega)]
  exact g l hl p hp
theorem AgN.cls (h : AgN V V') (hC : Cls V σ) : Cls V' σ := by
  obtain ⟨h1, h2, h3, h4, h5, h6, h7, h8⟩ := hC
  refine ⟨h1, by rw [h.1 9 (by omega)]; exact h2, by rw [h.1 10 (by omega)]; exact h3, by rw [h.1 11 (by omega)]; exact h4, by rw [h.1 12 (by omega)]; exact h5, by rw [h.1 13 (by omega)]; exact h6, fun s hs => by rw [h.2 338 s (by omega) (by omega), h.2 339 s (by omega) (by omega)]; exact h7 s hs, fun l hl => ?_⟩
  have := h8 l (by rw [← h.nn]; exact hl)
  unfold LnAt at this ⊢
  rw [h.ln]
  simp only [h.2 329 _ (by omega) (by omega), h.2 330 _ (by omega) (by omega), h.2 331 _ (by omega) (by omega), h.2 332 _ (by omega) (by omega), h.2 333 _ (by omega) (by omega), h.2 334 _ (by omega) (by omega), h.2 335 _ (by omega) (by omega), h.2 336 _ (by omega) (by omega), h.2 337 _ (by omega) (by omega)]
  exact this
theorem ClsA.mv (h : ClsA V σ) (ok : OkN V) (g : CP σ σ') : ClsA V σ' := by
  refine ⟨h.1.mv ok g, ⟨by rw [g.at (by omega)]; exact h.2.1.1, fun i hi => by rw [g.at (by omega)]; exact h.2.1.2 i hi⟩, ⟨by rw [g.at (by omega)]; exact h.2.2.1, fun i hi => by rw [g.at (by omega)]; exact h.2.2.2 i hi⟩⟩
theorem RefA.mv (h : RefA V σ) (g : RP σ σ') : RefA V σ' := by
  obtain ⟨h1, h2, h3, h4, h5, h6⟩ := h
  exact ⟨h1.mv g, fun s hs => by rw [g.at (by omega)]; exact h2 s hs, by rw [g.at (by omega)]; exact h3, fun i => by rw [g.at (by omega)]; exact h4 i, by rw [g.at (by omega)]; exact h5, fun i => by rw [g.at (by omega)]; exact h6 i⟩
theorem ClsA.lo (h : ClsA V σ) (ok : OkN V) (g : Lo σ σ') : ClsA V σ' := by
  obtain ⟨⟨h1, h2, h3, h4, h5, h6, h7, h8⟩, ht, hr⟩ := h
  obtain ⟨t1, t2, t3⟩ := tab_mv h1 (σ' := σ') (g _ _ (by omega)) (g _ _ (by omega)) (fun j => g _ _ (by omega)) (fun j => g _ _ (by omega))
  refine ⟨⟨t1, by rw [g _ _ (by omega)]; exact h2, by rw [g _ _ (by omega)]; exact h3, by rw [g _ _ (by omega)]; exact h4, by rw [g _ _ (by omega)]; exact h5, by rw [g _ _ (by omega)]; exact h6, fun s hs => by rw [g _ _ (by omega), g _ _ (by omega)]; exact h7 s hs, fun l hl => ?_⟩, ⟨by rw [g _ _ (by omega)]; exact ht.1, fun i hi => by rw [g _ _ (by omega)]; exact ht.2 i hi⟩, ⟨by rw [g _ _ (by omega)]; exact hr.1, fun i hi => by rw [g _ _ (by omega)]; exact hr.2 i hi⟩⟩
  rw [t2]
  have hP := h1.2.1 l (by have := ok.n; omega)
  exact ln_mv (h8 l hl) hP (fun k j h1 h2 => g k j (by omega))
theorem RefA.hi (h : RefA V σ) (g : Hi σ σ') : RefA V σ' := by
  obtain ⟨h1, h2, h3, h4, h5, h6⟩ := h
  exact ⟨⟨fun j hj => by rw [g _ _ (by omega)]; exact h1.1 j hj, fun k j a b => by rw [g _ _ (by omega)]; exact h1.2 k j a b⟩, fun s hs => by rw [g _ _ (by omega)]; exact h2 s hs, by rw [g _ _ (by omega)]; exact h3, fun i => by rw [g _ _ (by omega)]; exact h4 i, by rw [g _ _ (by omega)]; exact h5, fun i => by rw [g _ _ (by omega)]; exact h6 i⟩
theorem OkA.up (h : OkA t V) : OkA (t + 1) V := ⟨h.1, h.2.1, ⟨h.2.2.1.1, by have := h.2.2.1.2.1; omega, h.2.2.1.2.2⟩, h.2.2.2⟩
/-- a call: the class's word and the reference's answer alike, and both hold one V afterwards -/
def Op (t : Nat) (V : Mem) (f6 f7 : Mem → PR) : Prop := ∃ (r : Int) (V' : Mem), OkA (t + 1) V' ∧ (∀ σ, ClsA V σ → wp (f6 σ) (fun r1 σ1 => r1 = r ∧ ClsA V' σ1 ∧ Hi σ σ1)) ∧ (∀ σ, RefA V σ → wp (f7 σ) (fun r2 σ2 => r2 = r ∧ RefA V' σ2 ∧ Lo σ σ2))
def Inv (t : Nat) (σ : Mem) : Prop := ∃ V, OkA t V ∧ ClsA V σ ∧ RefA V σ
theorem Op.go {f6 f7 : Mem → PR} {Q : Int → Mem → Prop} {g : Int → Mem → Int → Mem → PR} (h : ∀ V, OkA t V → Op t V f6 f7) (hI : Inv t σ) (hk : ∀ r σ1 σ2, Inv (t + 1) σ2 → wp (g r σ1 r σ2) Q) : wp (bnd (f6 σ) (fun x s2 => bnd (f7 s2) (fun y s3 => g x s2 y s3))) Q := by
  obtain ⟨V, h1, h2, h3⟩ := hI
  obtain ⟨r, V', o1, o2, o3⟩ := h V h1
  refine wp_bnd _ (o2 σ h2) ?_
  rintro x s2 ⟨rfl, c1, c2⟩
  refine wp_bnd _ (o3 s2 (h3.hi c2)) ?_
  rintro y s3 ⟨rfl, d1, d2⟩
  exact hk _ s2 s3 ⟨V', o1, c1.lo o1.1 d2, d1⟩
/-! the row -/
def emp (V : Mem) : Mem := mset V 328 19 0
def psh (V : Mem) (a : Int) : Mem := mset (mset V 341 (V 328 19).toNat a) 328 19 (V 328 19 + 1)
theorem emp_ag : AgN V (emp V) := ⟨fun j hj => ms_j (by omega), fun k j h1 h2 => ms_k (by omega)⟩
theorem psh_ag : AgN V (psh V a) := ⟨fun j hj => by unfold psh; rw [ms_j (by omega), ms_k (by omega)], fun k j h1 h2 => by unfold psh; rw [ms_k (by omega), ms_k (by omega)]⟩
theorem AgN.trans {V'' : Mem} (h : AgN V V') (g : AgN V' V'') : AgN V V'' := ⟨fun j hj => (g.1 j hj).trans (h.1 j hj), fun k j h1 h2 => (g.2 k j h1 h2).trans (h.2 k j h1 h2)⟩
theorem emp_ok (h : OkA t V) : OkA t (emp V) := by
  have ag := emp_ag (V := V)
  refine ⟨ag.ok h.1, by rw [ag.1 37 (by omega)]; exact h.2.1, ⟨by rw [ag.1 13 (by omega)]; exact h.2.2.1.1, by rw [ag.1 13 (by omega)]; exact h.2.2.1.2.1, ag.st h.2.2.1.2.2⟩, by unfold emp; rw [ms_j (by omega)]; exact h.2.2.2.1, by unfold emp; rw [ms_eq]; omega⟩
theorem psh_ok (h : OkA t V) (h19 : V 328 19 < 16) : OkA t (psh V a) := by
  have ag := psh_ag (V := V) (a := a)
  have := h.2.2.2.2
  refine ⟨ag.ok h.1, by rw [ag.1 37 (by omega)]; exact h.2.1, ⟨by rw [ag.1 13 (by omega)]; exact h.2.2.1.1, by rw [ag.1 13 (by omega)]; exact h.2.2.1.2.1, ag.st h.2.2.1.2.2⟩, by unfold psh; rw [ms_j (by omega), ms_k (by omega)]; exact h.2.2.2.1, by unfold psh; rw [ms_eq]; omega⟩
theorem emp_19 : emp V 328 19 = 0 := ms_eq _ _ _ _
theorem psh_19 : psh V a 328 19 = V 328 19 + 1 := ms_eq _ _ _ _
/-- Cls speaks of no place of these -/
theorem Cls.gen (h : Cls V σ) (ok : OkN V) (g : ∀ k j, ¬ scrC k j → k < 323 → ¬ (k = 1 ∧ j ≠ 2) → k ≠ 2 → σ' k j = σ k j) : Cls V σ' := by
  obtain ⟨h1, h2, h3, h4, h5, h6, h7, h8⟩ := h
  obtain ⟨t1, t2, t3⟩ := tab_mv h1 (σ' := σ') (g _ _ (by omega) (by omega) (by omega) (by omega)) (g _ _ (by omega) (by omega) (by omega) (by omega)) (fun j => g _ _ (by omega) (by omega) (by omega) (by omega)) (fun j => g _ _ (by omega) (by omega) (by omega) (by omega))
  refine ⟨t1, ?_, ?_, ?_, ?_, ?_, fun s hs => ?_, fun l hl => ?_⟩
  · rw [g _ _ (by omega) (by omega) (by omega) (by omega)]; exact h2
  · rw [g _ _ (by omega) (by omega) (by omega) (by omega)]; exact h3
  · rw [g _ _ (by omega) (by omega) (by omega) (by omega)]; exact h4
  · rw [g _ _ (by omega) (by omega) (by omega) (by omega)]; exact h5
  · rw [g _ _ (by omega) (by omega) (by omega) (by omega)]; exact h6
  · rw [g _ _ (by omega) (by omega) (by omega) (by omega), g _ _ (by omega) (by omega) (by omega) (by omega)]; exact h7 s hs
  · rw [t2]
    have hP := h1.2.1 l (by have := ok.n; omega)
    exact ln_mv (h8 l hl) hP (fun k j a b => g k j (by omega) (by omega) (by omega) (by omega))
theorem c_empty (fu : Nat) (ok : OkN V) (hC : ClsA V σ) : wp (fX3_empty fu σ) (fun _ σ' => ClsA (emp V) σ' ∧ Hi σ σ' ∧ ∀ k j, k ≠ 323 → σ' k j = σ k j) := by
  unfold fX3_empty
  refine wp_stf (wp_some ⟨⟨?_, ?_, ?_⟩, (Hi.refl σ).set (by omega), fun k j hk => ms_k hk⟩)
  · exact emp_ag.cls (hC.1.gen ok (fun k j _ _ _ _ => ms_k (by omega)))
  · exact ⟨by rw [ms_k (by omega)]; unfold emp; rw [ms_j (by omega)]; exact hC.2.1.1, fun i hi => by
      unfold emp at hi ⊢
      rw [ms_j (by omega)] at hi
      rw [ms_k (by omega), ms_k (by omega)]; exact hC.2.1.2 i hi⟩
  · exact ⟨by rw [ms_eq, emp_19], fun i hi => by rw [emp_19] at hi; omega⟩
theorem c_put (fu : Nat) (ok : OkN V) (h19 : 0 ≤ V 328 19 ∧ V 328 19 < 16) (hC : ClsA V σ) : wp (fX3_put fu a σ) (fun _ σ' => ClsA (psh V a) σ' ∧ Hi σ σ' ∧ ∀ k j, k ≠ 323 → k ≠ 324 → σ' k j = σ k j) := by
  unfold fX3_put
  have e := hC.2.2.1
  refine wp_jn ?_
  rw [e]
  refine iLe (fun h => by omega) (fun _ => ?_)
  refine wI (V 328 19).toNat (by omega) (by omega) ?_
  rw [ms_k (by omega), e]
  refine wp_stf (wp_some ⟨⟨?_, ?_, ?_⟩, ((Hi.refl σ).set (by omega)).set (by omega), fun k j hk hk2 => by rw [ms_k hk, ms_k hk2]⟩)
  · exact psh_ag.cls (hC.1.gen ok (fun k j _ _ _ _ => by rw [ms_k (by omega), ms_k (by omega)]))
  · exact ⟨by rw [ms_k (by omega), ms_k (by omega)]; unfold psh; rw [ms_j (by omega), ms_k (by omega)]; exact hC.2.1.1, fun i hi => by
      unfold psh at hi ⊢
      rw [ms_j (by omega), ms_k (by omega)] at hi
      rw [ms_k (by omega), ms_k (by omega), ms_k (by omega), ms_k (by omega)]; exact hC.2.1.2 i hi⟩
  · refine ⟨by rw [ms_eq, psh_19], fun i hi => ?_⟩
    rw [psh_19] at hi
    unfold psh
    rw [ms_k (show (324 : Nat) ≠ 323 by omega), ms_k (show (341 : Nat) ≠ 328 by omega)]
    by_cases e2 : i = (V 328 19).toNat
    · rw [e2, ms_eq, ms_eq]
    · rw [ms_j e2, ms_j e2]; exact hC.2.2.2 i (by omega)
def row1 (V : Mem) (a : Int) : Mem := psh (emp V) a
def row2 (V : Mem) (a b : Int) : Mem := psh (psh (emp V) a) b
theorem row1_ok (h : OkA t V) : OkA t (row1 V a) := psh_ok (emp_ok h) (by rw [emp_19]; omega)
theorem row2_ok (h : OkA t V) : OkA t (row2 V a b) := psh_ok (psh_ok (emp_ok h) (by rw [emp_19]; omega)) (by rw [psh_19, emp_19]; omega)
theorem row1_ag : AgN V (row1 V a) := emp_ag.trans psh_ag
theorem row2_ag : AgN V (row2 V a b) := (emp_ag.trans psh_ag).trans psh_ag
theorem c_putOne (fu : Nat) (ok : OkN V) (hC : ClsA V σ) : wp (fX3_putOne fu a σ) (fun _ σ' => ClsA (row1 V a) σ' ∧ Hi σ σ' ∧ ∀ k j, k ≠ 323 → k ≠ 324 → σ' k j = σ k j) := by
  unfold fX3_putOne
  refine wp_bnd _ (c_empty fu ok hC) ?_
  intro _ s1 ⟨h1, h2, h3⟩
  refine wp_bnd _ (c_put (a := a) fu (emp_ag.ok ok) (by rw [emp_19]; omega) h1) ?_
  intro _ s2 ⟨g1, g2, g3⟩
  exact wp_some ⟨g1, h2.trans g2, fun k j a b => (g3 k j a b).trans (h3 k j a)⟩
theorem c_putTwo (fu : Nat) (ok : OkN V) (hC : ClsA V σ) : wp (fX3_putTwo fu a b σ) (fun _ σ' => ClsA (row2 V a b) σ' ∧ Hi σ σ' ∧ ∀ k j, k ≠ 323 → k ≠ 324 → σ' k j = σ k j) := by
  unfold fX3_putTwo
  refine wp_bnd _ (c_empty fu ok hC) ?_
  intro _ s1 ⟨h1, h2, h3⟩
  refine wp_bnd _ (c_put (a := a) fu (emp_ag.ok ok) (by rw [emp_19]; omega) h1) ?_
  intro _ s2 ⟨g1, g2, g3⟩
  refine wp_bnd _ (c_put (a := b) fu ((emp_ag.trans psh_ag).ok ok) (by rw [psh_19, emp_19]; omega) g1) ?_
  intro _ s3 ⟨q1, q2, q3⟩
  exact wp_some ⟨q1, (h2.trans g2).trans q2, fun k j a b => ((q3 k j a b).trans (g3 k j a b)).trans (h3 k j a)⟩
/-- where the reference's row may be written -/
theorem r_emp (hR : RefA V σ) : RefA (emp V) (mset σ 328 19 0) := by
  obtain ⟨h1, h2, h3, h4, h5, h6⟩ := hR
  refine ⟨⟨fun j hj => ?_, fun k j a b => ?_⟩, fun s hs => ?_, ?_, fun i => ?_, ?_, fun i => ?_⟩
  · unfold emp; rw [ms_j (by omega), ms_j (by omega)]; exact h1.1 j hj
  · unfold emp; rw [ms_k (by omega), ms_k (by omega)]; exact h1.2 k j a b
  · unfold emp; rw [ms_k (by omega), ms_k (by omega)]; exact h2 s hs
  · unfold emp; rw [ms_j (by omega), ms_j (by omega)]; exact h3
  · unfold emp; rw [ms_k (by omega), ms_k (by omega)]; exact h4 i
  · unfold emp; rw [ms_eq, ms_eq]
  · unfold emp; rw [ms_k (by omega), ms_k (by omega)]; exact h6 i
theorem r_tell (fu : Nat) (h19 : 0 ≤ V 328 19 ∧ V 328 19 < 32) (hR : RefA V σ) : wp (fX7_tell fu a σ) (fun _ σ' => RefA (psh V a) σ' ∧ Lo σ σ' ∧ ∀ k j, k ≠ 341 → ¬ (k = 328 ∧ j = 19) → σ' k j = σ k j) := by
  unfold fX7_tell
  obtain ⟨h1, h2, h3, h4, h5, h6⟩ := hR
  rw [h5]
  refine wI (V 328 19).toNat (by omega) (by omega) ?_
  rw [ms_k (by omega), h5]
  refine wp_stf (wp_some ⟨⟨⟨fun j hj => ?_, fun k j a b => ?_⟩, fun s hs => ?_, ?_, fun i => ?_, ?_, fun i => ?_⟩, ((Lo.refl σ).set (by omega)).set (by omega), fun k j hk hk2 => by rw [mset_eq, if_neg hk2, ms_k hk]⟩)
  · unfold psh; rw [ms_j (by omega), ms_k (by omega), ms_j (by omega), ms_k (by omega)]; exact h1.1 j hj
  · unfold psh; rw [ms_k (by omega), ms_k (by omega), ms_k (by omega), ms_k (by omega)]; exact h1.2 k j a b
  · unfold psh; rw [ms_k (by omega), ms_k (by omega), ms_k (by omega), ms_k (by omega)]; exact h2 s hs
  · unfold psh; rw [ms_j (by omega), ms_k (by omega), ms_j (by omega), ms_k (by omega)]; exact h3
  · unfold psh; rw [ms_k (by omega), ms_k (by omega), ms_k (by omega), ms_k (by omega)]; exact h4 i
  · unfold psh; rw [ms_eq, ms_eq]
  · unfold psh; rw [ms_k (show (341 : Nat) ≠ 328 by omega), ms_k (show (341 : Nat) ≠ 328 by omega)]
    by_cases e : i = (V 328 19).toNat
    · rw [e, ms_eq, ms_eq]
    · rw [ms_j e, ms_j e]; exact h6 i
theorem RefA.s20 (hR : RefA V σ) : RefA V (mset σ 328 20 v) := hR.mv ((RP.refl σ).set (by omega))
/-- the reference's small questions -/
theorem r_in (fu : Nat) {x y : Int} (hx : R64 a) (hy : R64 x) (hz : R64 y) : wp (fX7_in fu a x y σ) (fun r σ' => (r = 0 ∨ r = 1) ∧ (r = 1 ↔ x ≤ a ∧ a ≤ y) ∧ σ = σ') := by
  unfold fX7_in
  refine wp_jn (wp_jn ?_)
  refine jLt (fun h => wp_rtz (Or.inl rfl) ⟨Or.inl rfl, by omega, rfl⟩) (fun h => ?_)
  exact jLt (fun h => wp_rtz (Or.inl rfl) ⟨Or.inl rfl, by omega, rfl⟩) (fun h => wp_rtz (Or.inr rfl) ⟨Or.inr rfl, by omega, rfl⟩)
end INV
