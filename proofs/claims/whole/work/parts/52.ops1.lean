/-! ===== calls that set one place, or ask of one ===== -/
section OPS1
variable {V V' σ σ' : Mem} {t k j l s fu : Nat} {a b v r : Int}
theorem wp_bs {Q : Int → Mem → Prop} {c : Int → Mem → PR} (h : wp (c a σ) Q) : wp (bnd (some (a, σ)) c) Q := h
theorem st_set (h : StN V) (h1 : k ≠ 332) (h2 : k ≠ 333) (h3 : k ≠ 330) (h4 : ¬ (k = 328 ∧ j = 9)) : StN (mset V k j a) := by
  intro l hl p hp
  unfold nn at hl
  unfold ln at hp
  rw [mset_eq, if_neg (by omega)] at hl
  rw [ms_k (by omega)] at hp
  rw [ms_k (by omega), ms_k (by omega)]
  exact h l hl p hp
theorem OkA.of (h : OkA t V) (ok : OkN V') (st : StN V') (e : ∀ j, j = 37 ∨ j = 13 ∨ j = 17 ∨ j = 19 → V' 328 j = V 328 j) : OkA (t + 1) V' := by
  refine ⟨ok, ?_, ?_, ?_, ?_⟩
  · rw [e 37 (by omega)]; exact h.2.1
  · rw [e 13 (by omega)]; exact ⟨h.2.2.1.1, by have := h.2.2.1.2.1; omega, st⟩
  · rw [e 17 (by omega)]; exact h.2.2.2.1
  · rw [e 19 (by omega)]; exact h.2.2.2.2
theorem clsA_setN (h : ClsA V σ) (ok : OkN V) {f : Nat} (hf : (f = 3 ∧ j = 10) ∨ (f = 4 ∧ j = 11) ∨ (f = 5 ∧ j = 12)) : ClsA (mset V 328 j a) (mset σ 136 f a) :=
  h.of (cls_setN h.1 ok hf) (fun k j hk => ms_k (by omega)) (ms_j (by omega)) (ms_j (by omega)) (fun i => ms_k (by omega)) (fun i => ms_k (by omega))
theorem clsA_setS (h : ClsA V σ) (ok : OkN V) (hs : s < 10) {f : Nat} (hf : (f = 0 ∧ k = 338) ∨ (f = 1 ∧ k = 339)) : ClsA (mset V k s a) (mset σ (283 + 4 * s) f a) :=
  h.of (cls_setS h.1 ok hs hf) (fun k j hk => ms_k (by omega)) (ms_k (by omega)) (ms_k (by omega)) (fun i => ms_k (by omega)) (fun i => ms_k (by omega))
theorem clsA_setL (h : ClsA V σ) (ok : OkN V) (hl : l < nn V) {f : Nat} (hf : (f = 0 ∧ k = 329) ∨ (f = 2 ∧ k = 335) ∨ (f = 3 ∧ k = 336) ∨ (f = 4 ∧ k = 337)) : ClsA (mset V k l a) (mset σ (PL σ l) f a) := by
  have hP := h.1.isL ok hl
  exact h.of (cls_setL h.1 ok hl hf) (fun k j hk => ms_k (by omega)) (ms_k (by omega)) (ms_k (by omega)) (fun i => ms_k (by omega)) (fun i => ms_k (by omega))
theorem okA_setN (h : OkA t V) (hf : (j = 10 ∧ 1 ≤ a ∧ a ≤ 100) ∨ (j = 11 ∧ 0 ≤ a ∧ a ≤ 9) ∨ (j = 12 ∧ 0 ≤ a ∧ a ≤ 9999)) : OkA (t + 1) (mset V 328 j a) := h.of (okn_setN h.1 hf) (st_set h.2.2.1.2.2 (by omega) (by omega) (by omega) (by omega)) (fun i hi => ms_j (by omega))
theorem okA_setS (h : OkA t V) (hf : (k = 338 ∧ 0 ≤ a ∧ a ≤ 9999) ∨ (k = 339 ∧ (a = 0 ∨ a = 1))) : OkA (t + 1) (mset V k s a) := h.of (okn_setS h.1 hf) (st_set h.2.2.1.2.2 (by omega) (by omega) (by omega) (by omega)) (fun i hi => ms_k (by omega))
theorem okA_setL (h : OkA t V) (hl : l < nn V) (hf : (k = 329 ∧ 1 ≤ a ∧ a ≤ 60) ∨ (k = 335 ∧ 1 ≤ a ∧ a ≤ 999) ∨ (k = 336 ∧ 0 ≤ a ∧ a ≤ 59) ∨ (k = 337 ∧ (a = 0 ∨ a = 1))) : OkA (t + 1) (mset V k l a) := h.of (okn_setL h.1 hl hf) (st_set h.2.2.1.2.2 (by omega) (by omega) (by omega) (by omega)) (fun i hi => ms_k (by omega))
/-- a call after which nothing is otherwise -/
theorem op_same {f6 f7 : Mem → PR} (h : OkA t V) (r : Int) (h6 : ∀ σ, ClsA V σ → wp (f6 σ) (fun r1 σ1 => r1 = r ∧ CP σ σ1)) (h7 : ∀ σ, RefA V σ → wp (f7 σ) (fun r2 σ2 => r2 = r ∧ RP σ σ2)) : Op t V f6 f7 :=
  ⟨r, V, h.up, fun σ hC => wp_imp (h6 σ hC) (fun _ _ g => ⟨g.1, hC.mv h.1 g.2, g.2.hi⟩), fun σ hR => wp_imp (h7 σ hR) (fun _ _ g => ⟨g.1, hR.mv g.2, g.2.lo⟩)⟩
theorem rp20 (σ : Mem) (v : Int) : RP σ (mset σ 328 20 v) := (RP.refl σ).set (by omega)
theorem lo20 (σ : Mem) (v : Int) : Lo σ (mset σ 328 20 v) := (Lo.refl σ).set (by omega)
theorem op_waiting (h : OkA t V) (ha : R32 a) : Op t V (fX6_waiting fu a) (fX7_waiting fu a) := by
  by_cases hc : 1 ≤ a ∧ a ≤ 100
  · refine ⟨V 328 10, mset V 328 10 a, okA_setN h (by omega), fun σ hC => ?_, fun σ hR => ?_⟩
    · unfold fX6_waiting
      refine wp_jn (iLt (fun h => by omega) (fun _ => ?_) ha)
      refine iLe (fun _ => ?_) (fun h => by omega) ha
      exact wp_lt (wp_stf (wp_some ⟨hC.1.2.2.1, clsA_setN hC h.1 (by omega), (Hi.refl σ).set (by omega)⟩))
    · unfold fX7_waiting
      refine wp_stf ?_
      rw [w32_id ha]
      refine wp_bnd _ (r_in fu (by omega) (by omega) (by omega)) ?_
      rintro x s' ⟨h0, h1, rfl⟩
      refine iNe0 (fun _ => ?_) (fun h => by omega)
      exact wp_lt (wp_stf (wp_some ⟨hR.s20.1.j (by omega), hR.s20.set, (lo20 σ 0).set (by omega)⟩))
  · refine op_same h (-1) (fun σ hC => ?_) (fun σ hR => ?_)
    · unfold fX6_waiting
      refine wp_jn (iLt (fun h => wp_some ⟨rfl, CP.refl σ⟩) (fun _ => ?_) ha)
      exact iLe (fun _ => by omega) (fun h => wp_some ⟨rfl, CP.refl σ⟩) ha
    · unfold fX7_waiting
      refine wp_stf ?_
      rw [w32_id ha]
      refine wp_bnd _ (r_in fu (by omega) (by omega) (by omega)) ?_
      rintro x s' ⟨h0, h1, rfl⟩
      exact iNe0 (fun _ => by omega) (fun h => wp_some ⟨rfl, rp20 σ 0⟩)
theorem op_crowd (h : OkA t V) (ha : R32 a) : Op t V (fX6_crowd fu a) (fX7_crowd fu a) := by
  by_cases hc : 0 ≤ a ∧ a ≤ 9999
  · refine ⟨V 328 12, mset V 328 12 a, okA_setN h (by omega), fun σ hC => ?_, fun σ hR => ?_⟩
    · unfold fX6_crowd
      refine wp_jn (iLt0 (fun h => by omega) (fun _ => ?_) ha)
      refine iLe (fun _ => ?_) (fun h => by omega) ha
      exact wp_lt (wp_stf (wp_some ⟨hC.1.2.2.2.2.1, clsA_setN hC h.1 (by omega), (Hi.refl σ).set (by omega)⟩))
    · unfold fX7_crowd
      refine wp_stf ?_
      rw [w32_id ha]
      refine wp_bnd _ (r_in fu (by omega) (by omega) (by omega)) ?_
      rintro x s' ⟨h0, h1, rfl⟩
      refine iNe0 (fun _ => ?_) (fun h => by omega)
      exact wp_lt (wp_stf (wp_some ⟨hR.s20.1.j (by omega), hR.s20.set, (lo20 σ 0).set (by omega)⟩))
  · refine op_same h (-1) (fun σ hC => ?_) (fun σ hR => ?_)
    · unfold fX6_crowd
      refine wp_jn (iLt0 (fun h => wp_some ⟨rfl, CP.refl σ⟩) (fun _ => ?_) ha)
      exact iLe (fun _ => by omega) (fun h => wp_some ⟨rfl, CP.refl σ⟩) ha
    · unfold fX7_crowd
      refine wp_stf ?_
      rw [w32_id ha]
      refine wp_bnd _ (r_in fu (by omega) (by omega) (by omega)) ?_
      rintro x s' ⟨h0, h1, rfl⟩
      exact iNe0 (fun _ => by omega) (fun h => wp_some ⟨rfl, rp20 σ 0⟩)
theorem op_goal (h : OkA t V) (ha : R32 a) : Op t V (fX6_goal fu a) (fX7_goal fu a) := by
  by_cases hc : 0 ≤ a ∧ a < 10
  · refine ⟨V 328 11, mset V 328 11 a, okA_setN h (by omega), fun σ hC => ?_, fun σ hR => ?_⟩
    · unfold fX6_goal
      refine wp_bnd _ (c_isStop fu σ ha) ?_
      rintro x s' ⟨h0, h1, rfl⟩
      refine iNe0 (fun _ => ?_) (fun h => by omega)
      exact wp_lt (wp_stf (wp_some ⟨hC.1.2.2.2.1, clsA_setN hC h.1 (by omega), (Hi.refl σ).set (by omega)⟩))
    · unfold fX7_goal
      refine wp_stf ?_
      refine wp_bnd _ (r_isStop fu _ ha) ?_
      rintro x s' ⟨h0, h1, rfl⟩
      refine iNe0 (fun _ => ?_) (fun h => by omega)
      exact wp_lt (wp_stf (wp_some ⟨hR.s20.1.j (by omega), hR.s20.set, (lo20 σ 0).set (by omega)⟩))
  · refine op_same h (-1) (fun σ hC => ?_) (fun σ hR => ?_)
    · unfold fX6_goal
      refine wp_bnd _ (c_isStop fu σ ha) ?_
      rintro x s' ⟨h0, h1, rfl⟩
      exact iNe0 (fun _ => by omega) (fun h => wp_some ⟨rfl, CP.refl σ⟩)
    · unfold fX7_goal
      refine wp_stf ?_
      refine wp_bnd _ (r_isStop fu _ ha) ?_
      rintro x s' ⟨h0, h1, rfl⟩
      exact iNe0 (fun _ => by omega) (fun h => wp_some ⟨rfl, rp20 σ 0⟩)
theorem op_riders (h : OkA t V) (ha : R32 a) (hb : R32 b) : Op t V (fX6_riders fu a b) (fX7_riders fu a b) := by
  by_cases hc : (0 ≤ a ∧ a < 10) ∧ 0 ≤ b ∧ b ≤ 9999
  · obtain ⟨s, rfl⟩ := Int.eq_ofNat_of_zero_le hc.1.1
    have hs : s < 10 := by omega
    refine ⟨V 338 s, mset V 338 s b, okA_setS h (by omega), fun σ hC => ?_, fun σ hR => ?_⟩
    · unfold fX6_riders
      refine wp_bnd _ (c_isStop fu σ ha) ?_
      rintro x s' ⟨h0, h1, rfl⟩
      refine wp_jn (iEq0 (fun _ => by omega) (fun _ => ?_))
      refine iLt0 (fun h => by omega) (fun _ => ?_) hb
      refine iLe (fun _ => ?_) (fun h => by omega) hb
      refine rS s rfl hs (wp_lt (rS s rfl hs ?_))
      exact wp_stf (wp_some ⟨(hC.1.2.2.2.2.2.2.1 s hs).1, clsA_setS hC h.1 hs (by omega), (Hi.refl σ).set (by omega)⟩)
    · unfold fX7_riders
      refine wp_stf ?_
      refine wp_bnd _ (r_isStop fu _ ha) ?_
      rintro x s' ⟨h0, h1, rfl⟩
      refine wp_jn (iEq0 (fun _ => by omega) (fun _ => ?_))
      rw [w32_id hb]
      refine wp_bnd _ (r_in fu (by omega) (by omega) (by omega)) ?_
      rintro x s' ⟨g0, g1, rfl⟩
      refine iNe0 (fun _ => ?_) (fun h => by omega)
      refine rI s rfl hs (wI s rfl hs ?_)
      exact wp_some ⟨hR.s20.2.1 s hs, hR.s20.set, (lo20 σ 0).set (by omega)⟩
  · refine op_same h (-1) (fun σ hC => ?_) (fun σ hR => ?_)
    · unfold fX6_riders
      refine wp_bnd _ (c_isStop fu σ ha) ?_
      rintro x s' ⟨h0, h1, rfl⟩
      refine wp_jn (iEq0 (fun _ => wp_some ⟨rfl, CP.refl σ⟩) (fun _ => ?_))
      refine iLt0 (fun h => wp_some ⟨rfl, CP.refl σ⟩) (fun _ => ?_) hb
      exact iLe (fun _ => by omega) (fun h => wp_some ⟨rfl, CP.refl σ⟩) hb
    · unfold fX7_riders
      refine wp_stf ?_
      refine wp_bnd _ (r_isStop fu _ ha) ?_
      rintro x s' ⟨h0, h1, rfl⟩
      refine wp_jn (iEq0 (fun _ => wp_some ⟨rfl, rp20 σ 0⟩) (fun _ => ?_))
      rw [w32_id hb]
      refine wp_bnd _ (r_in fu (by omega) (by omega) (by omega)) ?_
      rintro x s' ⟨g0, g1, rfl⟩
      exact iNe0 (fun _ => by omega) (fun h => wp_some ⟨rfl, rp20 σ 0⟩)
theorem op_often (h : OkA t V) (ha : R32 a) (hb : R32 b) : Op t V (fX6_often fu a b) (fX7_often fu a b) := by
  have hn := h.1.n
  by_cases hc : (0 ≤ a ∧ a < V 328 9) ∧ 1 ≤ b ∧ b ≤ 60
  · obtain ⟨l, rfl⟩ := Int.eq_ofNat_of_zero_le hc.1.1
    have hl : l < nn V := by omega
    refine ⟨V 329 l, mset V 329 l b, okA_setL h hl (by omega), fun σ hC => ?_, fun σ hR => ?_⟩
    · unfold fX6_often
      refine wp_bnd _ (c_hasLine h.1 hC.1 ha) ?_
      rintro x s' ⟨h0, h1, rfl⟩
      refine wp_jn (iEq0 (fun _ => by omega) (fun _ => ?_))
      refine iLt (fun h => by omega) (fun _ => ?_) hb
      refine iLe (fun _ => ?_) (fun h => by omega) hb
      refine wp_rfd (rR l rfl (by omega) (wp_lt (wp_rfd (rR l rfl (by omega) ?_))))
      exact wp_stf (wp_some ⟨(hC.1.ln hl).1, clsA_setL hC h.1 hl (by omega), (Hi.refl σ).set (by have := hC.1.isL h.1 hl; show PL σ l < 328; omega)⟩)
    · unfold fX7_often
      refine wp_stf ?_
      refine wp_bnd _ (r_isLine h.1 hR.s20.1 ha) ?_
      rintro x s' ⟨h0, h1, rfl⟩
      refine wp_jn (iEq0 (fun _ => by omega) (fun _ => ?_))
      rw [w32_id hb]
      refine wp_bnd _ (r_in fu (by omega) (by omega) (by omega)) ?_
      rintro x s' ⟨g0, g1, rfl⟩
      refine iNe0 (fun _ => ?_) (fun h => by omega)
      refine rI l rfl (by omega) (wI l rfl (by omega) ?_)
      exact wp_some ⟨hR.s20.1.2 329 l (by omega) (by omega), hR.s20.set, (lo20 σ 0).set (by omega)⟩
  · refine op_same h (-1) (fun σ hC => ?_) (fun σ hR => ?_)
    · unfold fX6_often
      refine wp_bnd _ (c_hasLine h.1 hC.1 ha) ?_
      rintro x s' ⟨h0, h1, rfl⟩
      refine wp_jn (iEq0 (fun _ => wp_some ⟨rfl, CP.refl σ⟩) (fun _ => ?_))
      refine iLt (fun h => wp_some ⟨rfl, CP.refl σ⟩) (fun _ => ?_) hb
      exact iLe (fun _ => by omega) (fun h => wp_some ⟨rfl, CP.refl σ⟩) hb
    · unfold fX7_often
      refine wp_stf ?_
      refine wp_bnd _ (r_isLine h.1 hR.s20.1 ha) ?_
      rintro x s' ⟨h0, h1, rfl⟩
      refine wp_jn (iEq0 (fun _ => wp_some ⟨rfl, rp20 σ 0⟩) (fun _ => ?_))
      rw [w32_id hb]
      refine wp_bnd _ (r_in fu (by omega) (by omega) (by omega)) ?_
      rintro x s' ⟨g0, g1, rfl⟩
      exact iNe0 (fun _ => by omega) (fun h => wp_some ⟨rfl, rp20 σ 0⟩)
theorem op_seats (h : OkA t V) (ha : R32 a) (hb : R32 b) : Op t V (fX6_seats fu a b) (fX7_seats fu a b) := by
  have hn := h.1.n
  by_cases hc : (0 ≤ a ∧ a < V 328 9) ∧ 1 ≤ b ∧ b ≤ 999
  · obtain ⟨l, rfl⟩ := Int.eq_ofNat_of_zero_le hc.1.1
    have hl : l < nn V := by omega
    refine ⟨V 335 l, mset V 335 l b, okA_setL h hl (by omega), fun σ hC => ?_, fun σ hR => ?_⟩
    · unfold fX6_seats
      refine wp_bnd _ (c_hasLine h.1 hC.1 ha) ?_
      rintro x s' ⟨h0, h1, rfl⟩
      refine wp_jn (iEq0 (fun _ => by omega) (fun _ => ?_))
      refine iLt (fun h => by omega) (fun _ => ?_) hb
      refine iLe (fun _ => ?_) (fun h => by omega) hb
      refine wp_rfd (rR l rfl (by omega) (wp_lt (wp_rfd (rR l rfl (by omega) ?_))))
      exact wp_stf (wp_some ⟨(hC.1.ln hl).2.2.1, clsA_setL hC h.1 hl (by omega), (Hi.refl σ).set (by have := hC.1.isL h.1 hl; show PL σ l < 328; omega)⟩)
    · unfold fX7_seats
      refine wp_stf ?_
      refine wp_bnd _ (r_isLine h.1 hR.s20.1 ha) ?_
      rintro x s' ⟨h0, h1, rfl⟩
      refine wp_jn (iEq0 (fun _ => by omega) (fun _ => ?_))
      rw [w32_id hb]
      refine wp_bnd _ (r_in fu (by omega) (by omega) (by omega)) ?_
      rintro x s' ⟨g0, g1, rfl⟩
      refine iNe0 (fun _ => ?_) (fun h => by omega)
      refine rI l rfl (by omega) (wI l rfl (by omega) ?_)
      exact wp_some ⟨hR.s20.1.2 335 l (by omega) (by omega), hR.s20.set, (lo20 σ 0).set (by omega)⟩
  · refine op_same h (-1) (fun σ hC => ?_) (fun σ hR => ?_)
    · unfold fX6_seats
      refine wp_bnd _ (c_hasLine h.1 hC.1 ha) ?_
      rintro x s' ⟨h0, h1, rfl⟩
      refine wp_jn (iEq0 (fun _ => wp_some ⟨rfl, CP.refl σ⟩) (fun _ => ?_))
      refine iLt (fun h => wp_some ⟨rfl, CP.refl σ⟩) (fun _ => ?_) hb
      exact iLe (fun _ => by omega) (fun h => wp_some ⟨rfl, CP.refl σ⟩) hb
    · unfold fX7_seats
      refine wp_stf ?_
      refine wp_bnd _ (r_isLine h.1 hR.s20.1 ha) ?_
      rintro x s' ⟨h0, h1, rfl⟩
      refine wp_jn (iEq0 (fun _ => wp_some ⟨rfl, rp20 σ 0⟩) (fun _ => ?_))
      rw [w32_id hb]
      refine wp_bnd _ (r_in fu (by omega) (by omega) (by omega)) ?_
      rintro x s' ⟨g0, g1, rfl⟩
      exact iNe0 (fun _ => by omega) (fun h => wp_some ⟨rfl, rp20 σ 0⟩)
theorem op_offset (h : OkA t V) (ha : R32 a) (hb : R32 b) : Op t V (fX6_offset fu a b) (fX7_offset fu a b) := by
  have hn := h.1.n
  by_cases hc : (0 ≤ a ∧ a < V 328 9) ∧ 0 ≤ b ∧ b ≤ 59
  · obtain ⟨l, rfl⟩ := Int.eq_ofNat_of_zero_le hc.1.1
    have hl : l < nn V := by omega
    refine ⟨V 336 l, mset V 336 l b, okA_setL h hl (by omega), fun σ hC => ?_, fun σ hR => ?_⟩
    · unfold fX6_offset
      refine wp_bnd _ (c_hasLine h.1 hC.1 ha) ?_
      rintro x s' ⟨h0, h1, rfl⟩
      refine wp_jn (iEq0 (fun _ => by omega) (fun _ => ?_))
      refine iLt0 (fun h => by omega) (fun _ => ?_) hb
      refine iLe (fun _ => ?_) (fun h => by omega) hb
      refine wp_rfd (rR l rfl (by omega) (wp_lt (wp_rfd (rR l rfl (by omega) ?_))))
      exact wp_stf (wp_some ⟨(hC.1.ln hl).2.2.2.1, clsA_setL hC h.1 hl (by omega), (Hi.refl σ).set (by have := hC.1.isL h.1 hl; show PL σ l < 328; omega)⟩)
    · unfold fX7_offset
      refine wp_stf ?_
      refine wp_bnd _ (r_isLine h.1 hR.s20.1 ha) ?_
      rintro x s' ⟨h0, h1, rfl⟩
      refine wp_jn (iEq0 (fun _ => by omega) (fun _ => ?_))
      rw [w32_id hb]
      refine wp_bnd _ (r_in fu (by omega) (by omega) (by omega)) ?_
      rintro x s' ⟨g0, g1, rfl⟩
      refine iNe0 (fun _ => ?_) (fun h => by omega)
      refine rI l rfl (by omega) (wI l rfl (by omega) ?_)
      exact wp_some ⟨hR.s20.1.2 336 l (by omega) (by omega), hR.s20.set, (lo20 σ 0).set (by omega)⟩
  · refine op_same h (-1) (fun σ hC => ?_) (fun σ hR => ?_)
    · unfold fX6_offset
      refine wp_bnd _ (c_hasLine h.1 hC.1 ha) ?_
      rintro x s' ⟨h0, h1, rfl⟩
      refine wp_jn (iEq0 (fun _ => wp_some ⟨rfl, CP.refl σ⟩) (fun _ => ?_))
      refine iLt0 (fun h => wp_some ⟨rfl, CP.refl σ⟩) (fun _ => ?_) hb
      exact iLe (fun _ => by omega) (fun h => wp_some ⟨rfl, CP.refl σ⟩) hb
    · unfold fX7_offset
      refine wp_stf ?_
      refine wp_bnd _ (r_isLine h.1 hR.s20.1 ha) ?_
      rintro x s' ⟨h0, h1, rfl⟩
      refine wp_jn (iEq0 (fun _ => wp_some ⟨rfl, rp20 σ 0⟩) (fun _ => ?_))
      rw [w32_id hb]
      refine wp_bnd _ (r_in fu (by omega) (by omega) (by omega)) ?_
      rintro x s' ⟨g0, g1, rfl⟩
      exact iNe0 (fun _ => by omega) (fun h => wp_some ⟨rfl, rp20 σ 0⟩)
theorem c_bit (fu : Nat) (σ : Mem) (h : v = 0 ∨ v = 1) : wp (fX6_bit fu v σ) (fun r σ' => r = v ∧ σ = σ') := by
  unfold fX6_bit
  refine wp_jn (iEq0 (fun h => wp_some ⟨h.symm, rfl⟩) (fun h2 => wp_some ⟨by omega, rfl⟩))
theorem op_line (h : OkA t V) (ha : R32 a) (hb : R32 b) : Op t V (fX6_line fu a b) (fX7_line fu a b) := by
  have hn := h.1.n
  by_cases hc : 0 ≤ a ∧ a < V 328 9
  · obtain ⟨l, rfl⟩ := Int.eq_ofNat_of_zero_le hc.1
    have hl : l < nn V := by omega
    have h337 := (h.1.ok hl).2.2.2.2.1
    refine op_same h (if b = 0 then V 329 l else if b = 1 then V 330 l else if b = 2 then V 335 l else if b = 3 then V 336 l else if b = 4 then V 337 l else -1) (fun σ hC => ?_) (fun σ hR => ?_)
    · have hL := hC.1.ln hl
      unfold fX6_line
      refine wp_bnd _ (c_hasLine h.1 hC.1 ha) ?_
      rintro x s' ⟨h0, h1, rfl⟩
      refine iNe0 (fun _ => ?_) (fun h => by omega)
      refine wp_rfd (rR l rfl (by omega) ?_)
      rw [show pl (σ (pl (σ 136 0)) l) = PL σ l from rfl, w32_id hb, hL.1, hL.2.1, hL.2.2.1, hL.2.2.2.1, hL.2.2.2.2.1]
      refine wp_ite (fun g => wp_some ⟨?_, CP.refl σ⟩) (fun g => ?_)
      · rw [if_neg (by omega), if_neg (by omega), if_neg (by omega), if_neg (by omega), if_neg (by omega)]
      refine wp_ite (fun g => wp_some ⟨by rw [if_pos g], CP.refl σ⟩) (fun g0 => ?_)
      rw [if_neg g0]
      refine wp_ite (fun g => wp_some ⟨by rw [if_pos g], CP.refl σ⟩) (fun g1 => ?_)
      rw [if_neg g1]
      refine wp_ite (fun g => wp_some ⟨by rw [if_pos g], CP.refl σ⟩) (fun g2 => ?_)
      rw [if_neg g2]
      refine wp_ite (fun g => wp_some ⟨by rw [if_pos g], CP.refl σ⟩) (fun g3 => ?_)
      rw [if_neg g3]
      refine wp_ite (fun g => ?_) (fun g4 => by omega)
      rw [if_pos g]
      refine wp_bnd _ (c_bit fu σ h337) ?_
      rintro x s' ⟨rfl, rfl⟩
      exact wp_some ⟨rfl, CP.refl σ⟩
    · have hR' := hR.s20 (v := 0)
      unfold fX7_line
      refine wp_stf ?_
      refine wp_bnd _ (r_isLine h.1 hR'.1 ha) ?_
      rintro x s' ⟨h0, h1, rfl⟩
      refine iNe0 (fun _ => ?_) (fun h => by omega)
      rw [w32_id hb]
      refine wp_ite (fun g => wp_some ⟨?_, rp20 σ 0⟩) (fun g => ?_)
      · rw [if_neg (by omega), if_neg (by omega), if_neg (by omega), if_neg (by omega), if_neg (by omega)]
      refine wp_ite (fun g => rI l rfl (by omega) (wp_some ⟨by rw [if_pos g]; exact hR'.1.2 _ _ (by omega) (by omega), rp20 σ 0⟩)) (fun g0 => ?_)
      rw [if_neg g0]
      refine wp_ite (fun g => rI l rfl (by omega) (wp_some ⟨by rw [if_pos g]; exact hR'.1.2 _ _ (by omega) (by omega), rp20 σ 0⟩)) (fun g0 => ?_)
      rw [if_neg g0]
      refine wp_ite (fun g => rI l rfl (by omega) (wp_some ⟨by rw [if_pos g]; exact hR'.1.2 _ _ (by omega) (by omega), rp20 σ 0⟩)) (fun g0 => ?_)
      rw [if_neg g0]
      refine wp_ite (fun g => rI l rfl (by omega) (wp_some ⟨by rw [if_pos g]; exact hR'.1.2 _ _ (by omega) (by omega), rp20 σ 0⟩)) (fun g0 => ?_)
      rw [if_neg g0]
      refine wp_ite (fun g => ?_) (fun g4 => by omega)
      rw [if_pos g]
      refine rI l rfl (by omega) ?_
      rw [hR'.1.2 337 _ (by omega) (by omega)]
      exact wp_jn (iEq0 (fun h => wp_some ⟨h.symm, rp20 σ 0⟩) (fun h2 => wp_some ⟨by omega, rp20 σ 0⟩))
  · refine op_same h (-1) (fun σ hC => ?_) (fun σ hR => ?_)
    · unfold fX6_line
      refine wp_bnd _ (c_hasLine h.1 hC.1 ha) ?_
      rintro x s' ⟨h0, h1, rfl⟩
      exact iNe0 (fun _ => by omega) (fun h => wp_some ⟨rfl, CP.refl σ⟩)
    · unfold fX7_line
      refine wp_stf ?_
      refine wp_bnd _ (r_isLine h.1 hR.s20.1 ha) ?_
      rintro x s' ⟨h0, h1, rfl⟩
      exact iNe0 (fun _ => by omega) (fun h => wp_some ⟨rfl, rp20 σ 0⟩)
theorem op_stop (h : OkA t V) (ha : R32 a) (hb : R32 b) : Op t V (fX6_stop fu a b) (fX7_stop fu a b) := by
  have hn := h.1.n
  by_cases hc : 0 ≤ a ∧ a < V 328 9 ∧ 0 ≤ b ∧ b < V 330 a.toNat
  · obtain ⟨l, rfl⟩ := Int.eq_ofNat_of_zero_le hc.1
    obtain ⟨p, rfl⟩ := Int.eq_ofNat_of_zero_le hc.2.2.1
    have hl : l < nn V := by omega
    rw [Int.toNat_natCast] at hc
    have h8 := h.1.len hl
    have hp : p < ln V l := by omega
    refine ⟨V 331 (8 * l + p), if p + 1 < ln V l then row2 V (V 332 (8 * l + p)) (V 333 (8 * l + p)) else emp V, ?_, fun σ hC => ?_, fun σ hR => ?_⟩
    · split
      · exact (row2_ok h).up
      · exact (emp_ok h).up
    · have hL := hC.1.ln hl
      have hP := hC.1.isL h.1 hl
      unfold fX6_stop
      refine wp_bnd _ (c_hasHalt h.1 hC.1 ha hb) ?_
      rintro x s' ⟨h0, h1, rfl⟩
      rw [Int.toNat_natCast] at h1
      refine iNe0 (fun _ => ?_) (fun h => by omega)
      refine wp_rfd (rR l rfl (by omega) ?_)
      rw [show pl (σ (pl (σ 136 0)) l) = PL σ l from rfl]
      refine wp_bnd _ (c_empty fu h.1 hC) ?_
      intro _ s2 ⟨e1, e2, e3⟩
      have hL2 : LnAt V s2 l (PL σ l) := ln_mv hL hP (fun k j h1 h2 => e3 k j (by omega))
      refine wp_bnd _ (c_isStep hP h.1 hl hL2 hb) ?_
      rintro x s' ⟨g0, g1, rfl⟩
      by_cases hst : p + 1 < ln V l
      · have h7 := hL2.2.2.2.2.2.2 p hst
        have hO := (h.1.ok hl).2.2.2.2.2.2.2 p hst
        rw [if_pos hst]
        refine wp_jn (iEq0 (fun _ => by omega) (fun _ => ?_))
        refine rI p rfl (by omega) ?_
        rw [h7.1, w32_sm (by omega) (by omega)]
        refine wp_bnd _ (c_put fu (emp_ag.ok h.1) (by rw [emp_19]; omega) e1) ?_
        intro _ s3 ⟨q1, q2, q3⟩
        refine rI p rfl (by omega) ?_
        rw [q3 _ _ (by omega) (by omega), h7.2.1, w32_sm (by omega) (by omega)]
        refine wp_bnd _ (c_put fu ((emp_ag.trans psh_ag).ok h.1) (by rw [psh_19, emp_19]; omega) q1) ?_
        intro _ s4 ⟨w1, w2, w3⟩
        refine rI p rfl (by omega) ?_
        rw [w3 _ _ (by omega) (by omega), q3 _ _ (by omega) (by omega)]
        exact wp_some ⟨hL2.2.2.2.2.2.1 p hp, w1, (e2.trans q2).trans w2⟩
      · rw [if_neg hst]
        refine wp_jn (iEq0 (fun _ => ?_) (fun _ => by omega))
        refine rI p rfl (by omega) ?_
        exact wp_some ⟨hL2.2.2.2.2.2.1 p hp, e1, e2⟩
    · have hR' := hR.s20 (v := 0)
      unfold fX7_stop
      refine wp_stf ?_
      refine wp_bnd _ (r_isHalt h.1 hR'.1 ha hb) ?_
      rintro x s' ⟨h0, h1, rfl⟩
      rw [Int.toNat_natCast] at h1
      refine iNe0 (fun _ => ?_) (fun h => by omega)
      refine wp_stf ?_
      have hE := r_emp hR'
      have hlo := (lo20 σ 0).set (k := 328) (j := 19) (v := 0) (by omega)
      generalize mset (mset σ 328 20 0) 328 19 0 = s1 at *
      have ag := emp_ag (V := V)
      refine rI l rfl (by omega) ?_
      rw [hE.1.2 330 _ (by omega) (by omega), ag.2 330 _ (by omega) (by omega)]
      unfold fX7_at
      by_cases hst : p + 1 < ln V l
      · have hO := (h.1.ok hl).2.2.2.2.2.2.2 p hst
        rw [if_pos hst]
        refine wp_jn (iLe (fun _ => by omega) (fun _ => ?_))
        refine wp_bs ?_
        refine rI (8 * l + p) (by omega) (by omega) ?_
        rw [hE.1.2 332 _ (by omega) (by omega), ag.2 332 _ (by omega) (by omega), w32_sm (by omega) (by omega)]
        refine wp_bnd _ (r_tell fu (by rw [emp_19]; omega) hE) ?_
        intro _ s2 ⟨q1, q2, q3⟩
        refine wp_bs ?_
        refine rI (8 * l + p) (by omega) (by omega) ?_
        rw [q3 333 _ (by omega) (by omega), hE.1.2 333 _ (by omega) (by omega), ag.2 333 _ (by omega) (by omega)]
        refine wp_bnd _ (r_tell fu (by rw [psh_19, emp_19]; omega) q1) ?_
        intro _ s3 ⟨w1, w2, w3⟩
        refine wp_bs ?_
        refine rI (8 * l + p) (by omega) (by omega) ?_
        rw [w3 331 _ (by omega) (by omega), q3 331 _ (by omega) (by omega), hE.1.2 331 _ (by omega) (by omega), ag.2 331 _ (by omega) (by omega)]
        exact wp_some ⟨rfl, w1, (hlo.trans q2).trans w2⟩
      · rw [if_neg hst]
        refine wp_jn (iLe (fun _ => ?_) (fun _ => by omega))
        refine wp_bs ?_
        refine rI (8 * l + p) (by omega) (by omega) ?_
        rw [hE.1.2 331 _ (by omega) (by omega), ag.2 331 _ (by omega) (by omega)]
        exact wp_some ⟨rfl, hE, hlo⟩
  · refine op_same h (-1) (fun σ hC => ?_) (fun σ hR => ?_)
    · unfold fX6_stop
      refine wp_bnd _ (c_hasHalt h.1 hC.1 ha hb) ?_
      rintro x s' ⟨h0, h1, rfl⟩
      exact iNe0 (fun _ => by omega) (fun h => wp_some ⟨rfl, CP.refl σ⟩)
    · unfold fX7_stop
      refine wp_stf ?_
      refine wp_bnd _ (r_isHalt h.1 hR.s20.1 ha hb) ?_
      rintro x s' ⟨h0, h1, rfl⟩
      exact iNe0 (fun _ => by omega) (fun h => wp_some ⟨rfl, rp20 σ 0⟩)
theorem op_averaged (h : OkA t V) (ha : R32 a) (hb : R32 b) : Op t V (fX6_averaged fu a b) (fX7_averaged fu a b) := by
  have hn := h.1.n
  by_cases hc : 0 ≤ a ∧ a < V 328 9 ∧ 0 ≤ b ∧ b < V 330 a.toNat - 1
  · obtain ⟨l, rfl⟩ := Int.eq_ofNat_of_zero_le hc.1
    obtain ⟨p, rfl⟩ := Int.eq_ofNat_of_zero_le hc.2.2.1
    have hl : l < nn V := by omega
    rw [Int.toNat_natCast] at hc
    have h8 := h.1.len hl
    have hp : p + 1 < ln V l := by omega
    have hO := (h.1.ok hl).2.2.2.2.2.2.2 p hp
    refine ⟨V 334 (8 * l + p), row1 V (V 333 (8 * l + p)), (row1_ok h).up, fun σ hC => ?_, fun σ hR => ?_⟩
    · have hL := hC.1.ln hl
      have hP := hC.1.isL h.1 hl
      have h7 := hL.2.2.2.2.2.2 p hp
      unfold fX6_averaged
      refine wp_bnd _ (c_hasStep h.1 hC.1 ha hb) ?_
      rintro x s' ⟨h0, h1, rfl⟩
      rw [Int.toNat_natCast] at h1
      refine iNe0 (fun _ => ?_) (fun h => by omega)
      refine wp_rfd (rR l rfl (by omega) ?_)
      rw [show pl (σ (pl (σ 136 0)) l) = PL σ l from rfl]
      refine rI p rfl (by omega) ?_
      rw [h7.2.1, w32_sm (by omega) (by omega)]
      refine wp_bnd _ (c_putOne fu h.1 hC) ?_
      intro _ s2 ⟨e1, e2, e3⟩
      refine wp_rfd (rR l rfl (by omega) ?_)
      have hT := hC.1.1.1
      rw [e3 136 0 (by omega) (by omega), e3 (pl (σ 136 0)) l (by omega) (by omega), show pl (σ (pl (σ 136 0)) l) = PL σ l from rfl]
      refine rI p rfl (by omega) ?_
      rw [e3 _ _ (by omega) (by omega)]
      exact wp_some ⟨h7.2.2, e1, e2⟩
    · have hR' := hR.s20 (v := 0)
      unfold fX7_averaged
      refine wp_stf ?_
      refine wp_bnd _ (r_isStep h.1 hR'.1 ha hb) ?_
      rintro x s' ⟨h0, h1, rfl⟩
      rw [Int.toNat_natCast] at h1
      refine iNe0 (fun _ => ?_) (fun h => by omega)
      refine wp_stf ?_
      have hE := r_emp hR'
      have hlo := (lo20 σ 0).set (k := 328) (j := 19) (v := 0) (by omega)
      generalize mset (mset σ 328 20 0) 328 19 0 = s1 at *
      have ag := emp_ag (V := V)
      unfold fX7_at
      refine wp_bs ?_
      refine rI (8 * l + p) (by omega) (by omega) ?_
      rw [hE.1.2 333 _ (by omega) (by omega), ag.2 333 _ (by omega) (by omega)]
      refine wp_bnd _ (r_tell fu (by rw [emp_19]; omega) hE) ?_
      intro _ s2 ⟨q1, q2, q3⟩
      refine wp_bs ?_
      refine rI (8 * l + p) (by omega) (by omega) ?_
      rw [q3 334 _ (by omega) (by omega), hE.1.2 334 _ (by omega) (by omega), ag.2 334 _ (by omega) (by omega)]
      exact wp_some ⟨rfl, q1, hlo.trans q2⟩
  · refine op_same h (-1) (fun σ hC => ?_) (fun σ hR => ?_)
    · unfold fX6_averaged
      refine wp_bnd _ (c_hasStep h.1 hC.1 ha hb) ?_
      rintro x s' ⟨h0, h1, rfl⟩
      exact iNe0 (fun _ => by omega) (fun h => wp_some ⟨rfl, CP.refl σ⟩)
    · unfold fX7_averaged
      refine wp_stf ?_
      refine wp_bnd _ (r_isStep h.1 hR.s20.1 ha hb) ?_
      rintro x s' ⟨h0, h1, rfl⟩
      exact iNe0 (fun _ => by omega) (fun h => wp_some ⟨rfl, rp20 σ 0⟩)
theorem op_end (h : OkA t V) (ha : R32 a) : Op t V (fX6_end fu a) (fX7_end fu a) := by
  have h17 := h.2.2.2.1
  by_cases hc : 0 ≤ a ∧ a ≤ V 328 17
  · have ag : AgN V (mset V 328 17 a) := ⟨fun j hj => ms_j (by omega), fun k j h1 h2 => ms_k (by omega)⟩
    refine ⟨1, mset V 328 17 a, ⟨ag.ok h.1, by rw [ms_j (by omega)]; exact h.2.1, ⟨by rw [ms_j (by omega)]; exact h.2.2.1.1, by rw [ms_j (by omega)]; have := h.2.2.1.2.1; omega, ag.st h.2.2.1.2.2⟩, by rw [ms_eq]; omega, by rw [ms_j (by omega)]; exact h.2.2.2.2⟩, fun σ hC => ?_, fun σ hR => ?_⟩
    · unfold fX6_end
      rw [hC.2.1.1]
      refine wp_jn (iLt0 (fun h => by omega) (fun _ => ?_) ha)
      refine iLe (fun _ => ?_) (fun h => by omega) ha
      refine wp_stf (wp_rtz (Or.inr rfl) ⟨rfl, ⟨ag.cls (hC.1.gen h.1 (fun k j _ _ _ _ => ?_)), ⟨?_, fun i hi => ?_⟩, ⟨?_, fun i hi => ?_⟩⟩, (Hi.refl σ).set (by omega)⟩)
      · rw [mset_eq, if_neg (by omega)]
      · rw [ms_eq, ms_eq]
      · rw [ms_eq] at hi; rw [ms_k (by omega), ms_k (by omega)]; exact hC.2.1.2 i (by omega)
      · rw [ms_k (by omega), ms_j (by omega)]; exact hC.2.2.1
      · rw [ms_j (by omega)] at hi; rw [ms_k (by omega), ms_k (by omega)]; exact hC.2.2.2 i hi
    · have hR' := hR.s20 (v := 0)
      unfold fX7_end
      refine wp_stf ?_
      rw [hR'.2.2.1, w32_id ha, w32_sm (x := V 328 17) (by omega) (by omega)]
      refine wp_bnd _ (r_in fu (by omega) (by omega) (by omega)) ?_
      rintro x s' ⟨h0, h1, rfl⟩
      refine iNe0 (fun _ => ?_) (fun h => by omega)
      exact wp_stf (wp_rtz (Or.inr rfl) ⟨rfl, hR'.set, (lo20 σ 0).set (by omega)⟩)
  · refine op_same h 0 (fun σ hC => ?_) (fun σ hR => ?_)
    · unfold fX6_end
      rw [hC.2.1.1]
      refine wp_jn (iLt0 (fun h => wp_rtz (Or.inl rfl) ⟨rfl, CP.refl σ⟩) (fun _ => ?_) ha)
      exact iLe (fun _ => by omega) (fun h => wp_rtz (Or.inl rfl) ⟨rfl, CP.refl σ⟩) ha
    · have hR' := hR.s20 (v := 0)
      unfold fX7_end
      refine wp_stf ?_
      rw [hR'.2.2.1, w32_id ha, w32_sm (x := V 328 17) (by omega) (by omega)]
      refine wp_bnd _ (r_in fu (by omega) (by omega) (by omega)) ?_
      rintro x s' ⟨h0, h1, rfl⟩
      exact iNe0 (fun _ => by omega) (fun h => wp_rtz (Or.inl rfl) ⟨rfl, rp20 σ 0⟩)
end OPS1
