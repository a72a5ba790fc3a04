/-! ===== what would be ===== -/
section WHATIF
variable {V V' σ σ' X : Mem} {c rid : Nat → Int} {t k j l p s P fu : Nat} {a b v r A B x : Int}
theorem OkA.with (h : OkA t V) (ok : OkN V') (st : StN V') (e : ∀ j, j = 37 ∨ j = 13 ∨ j = 17 ∨ j = 19 → V' 328 j = V 328 j) : OkA t V' := by
  refine ⟨ok, ?_, ?_, ?_, ?_⟩
  · rw [e 37 (by omega)]; exact h.2.1
  · rw [e 13 (by omega)]; exact ⟨h.2.2.1.1, h.2.2.1.2.1, st⟩
  · rw [e 17 (by omega)]; exact h.2.2.2.1
  · rw [e 19 (by omega)]; exact h.2.2.2.2
theorem OkA.setS' (h : OkA t V) (hf : (k = 338 ∧ 0 ≤ a ∧ a ≤ 9999) ∨ (k = 339 ∧ (a = 0 ∨ a = 1))) : OkA t (mset V k s a) := h.with (okn_setS h.1 hf) (st_set h.2.2.1.2.2 (by omega) (by omega) (by omega) (by omega)) (fun i hi => ms_k (by omega))
theorem OkA.setL' (h : OkA t V) (hl : l < nn V) (hf : (k = 329 ∧ 1 ≤ a ∧ a ≤ 60) ∨ (k = 335 ∧ 1 ≤ a ∧ a ≤ 999) ∨ (k = 336 ∧ 0 ≤ a ∧ a ≤ 59) ∨ (k = 337 ∧ (a = 0 ∨ a = 1))) : OkA t (mset V k l a) := h.with (okn_setL h.1 hl hf) (st_set h.2.2.1.2.2 (by omega) (by omega) (by omega) (by omega)) (fun i hi => ms_k (by omega))
theorem c_totalNow (h : OkA t V) (hfu : 1000 < fu) (hC : ClsA V σ) : wp (fX6_totalNow fu σ) (fun r σ' => r = totv V ∧ σ' 136 9 = strv V ∧ ClsA V σ' ∧ Hi σ σ' ∧ CP σ σ') := by
  unfold fX6_totalNow
  refine wp_bnd _ (c_findTotal h hfu hC) ?_
  intro _ s1 ⟨d1, d2, d3, d4, d5, d6⟩
  exact wp_some ⟨d1, d2, d4, d5, d6⟩
theorem c_tellDiff (ok : OkN V) (hC : ClsA V σ) (e8 : σ 136 8 = A) (e9 : σ 136 9 = B) : wp (fX6_tellDifference fu x σ) (fun r σ' => r = A ∧ ClsA (row2 V (A - x) B) σ' ∧ Hi σ σ') := by
  unfold fX6_tellDifference
  rw [e8, e9]
  refine wp_bnd _ (c_putTwo fu ok hC) ?_
  intro _ s3 ⟨q1, q2, q3⟩
  exact wp_some ⟨by rw [q3 _ _ (by omega) (by omega)]; exact e8, q1, q2⟩
theorem r_tells (hR : RefA V σ) (e : σ 328 47 = B) : wp (fX7_tells fu A x σ) (fun r σ' => r = A ∧ RefA (row2 V (A - B) x) σ' ∧ Lo σ σ') := by
  unfold fX7_tells
  refine wp_stf ?_
  rw [ms_j (by omega), e]
  refine wp_bnd _ (r_tell fu (by rw [emp_19]; omega) (r_emp hR)) ?_
  intro _ s3 ⟨q1, q2, q3⟩
  refine wp_bnd _ (r_tell fu (by rw [psh_19, emp_19]; omega) q1) ?_
  intro _ s4 ⟨w1, w2, w3⟩
  exact wp_some ⟨rfl, w1, ((lo19 (Lo.refl σ) 0).trans q2).trans w2⟩
/-- the reference, one place otherwise -/
theorem r_what (h1 : OkA t (mset V k j a)) (hfu : 1000 < fu) (hR : RefA V σ) (hk : 328 ≤ k) : wp (fX7_before fu (mset σ k j a)) (fun r s => r = totv (mset V k j a) ∧ CostR (mset V k j a) s ∧ RefA (mset V k j a) s ∧ RefA V (mset s k j (V k j)) ∧ Lo σ s ∧ RQ (mset σ k j a) s) := by
  refine wp_imp (r_before h1 hfu hR.set) ?_
  intro r s ⟨d1, d2, d3, d4, d5⟩
  refine ⟨d1, d2, d3, ?_, ((Lo.refl σ).set hk).trans d4, d5⟩
  have := d3.set (k := k) (j := j) (a := V k j)
  rw [mset_back] at this
  exact this
theorem RefA.s47 (hR : RefA V σ) : RefA V (mset σ 328 47 v) := hR.mv ((RP.refl σ).set (by omega))
/-- the class, a line's field otherwise -/
theorem c_whatL (h : OkA t V) (h1 : OkA t (mset V k l a)) (hfu : 1000 < fu) (hl : l < nn V) {f : Nat} (hf : (f = 0 ∧ k = 329) ∨ (f = 2 ∧ k = 335) ∨ (f = 3 ∧ k = 336) ∨ (f = 4 ∧ k = 337)) (hC : ClsA V σ) : wp (fX2_findTotal fu (mset σ (PL σ l) f a)) (fun _ s => s 136 8 = totv (mset V k l a) ∧ s 136 9 = strv (mset V k l a) ∧ ClsA (mset V k l a) s ∧ ClsA V (mset s (PL σ l) f (V k l)) ∧ Hi σ s ∧ (∀ m, PL s m = PL σ m) ∧ s (PL σ l) f = a) := by
  have hP := hC.1.isL h.1 hl
  have hC1 : ClsA (mset V k l a) (mset σ (PL σ l) f a) := clsA_setL hC h.1 hl hf
  refine wp_imp (c_findTotal h1 hfu hC1) ?_
  intro r s ⟨d1, d2, d3, d4, d5, d6⟩
  have hPL1 := (tab_mv hC.1.1 (σ' := mset σ (PL σ l) f a) (ms_k (by omega)) (ms_k (by omega)) (fun j => ms_k (by omega)) (fun j => ms_k (by omega))).2.1
  have hPL : ∀ m, PL s m = PL σ m := fun m => by rw [(d6.tab hC1.1.1).2.1, hPL1]
  have hl1 : l < nn (mset V k l a) := by unfold nn; rw [ms_k (by omega)]; exact hl
  refine ⟨d1, d2, d4, ?_, ?_, hPL, ?_⟩
  · have := clsA_setL (a := V k l) d4 h1.1 hl1 hf
    rw [mset_back, hPL] at this
    exact this
  · exact ((Hi.refl σ).set (by omega)).trans d5
  · rw [d6.at (by omega), ms_eq]
theorem op_without (h : OkA t V) (hfu : 1000 < fu) (ha : R32 a) : Op t V (fX6_without fu a) (fX7_without fu a) := by
  have hn := h.1.n
  by_cases hc : 0 ≤ a ∧ a < V 328 9
  · obtain ⟨l, rfl⟩ := Int.eq_ofNat_of_zero_le hc.1
    have hl : l < nn V := by omega
    have h337 := (h.1.ok hl).2.2.2.2.1
    by_cases hd : V 337 l = 0
    · have h1 := h.setL' (k := 337) (a := 1) hl (by omega)
      refine ⟨totv (mset V 337 l 1), row2 V (totv (mset V 337 l 1) - totv V) (strv (mset V 337 l 1)), (row2_ok h).up, fun σ hC => ?_, fun σ hR => ?_⟩
      · unfold fX6_without
        refine wp_bnd _ (c_hasLine h.1 hC.1 ha) ?_
        rintro x s' ⟨h0, h1', rfl⟩
        refine iNe0 (fun _ => ?_) (fun h => by omega)
        refine wp_rfd (rR l rfl (by omega) ?_)
        rw [show pl (σ (pl (σ 136 0)) l) = PL σ l from rfl, (hC.1.ln hl).2.2.2.2.1]
        refine iEq0 (fun _ => ?_) (fun g => absurd hd g)
        refine wp_bnd _ (c_totalNow h hfu hC) ?_
        rintro x s2 ⟨rfl, d2, d3, d4, d5⟩
        rw [← (d5.tab hC.1.1).2.1 l]
        refine wp_stz (Or.inr rfl) ?_
        refine wp_bnd _ (c_whatL h h1 hfu hl (by omega) d3) ?_
        intro _ s4 ⟨e1, e2, e3, e4, e5, e6, e7⟩
        refine wp_stz (Or.inl rfl) ?_
        rw [hd] at e4
        have hP := d3.1.isL h.1 hl
        refine wp_bnd _ (c_tellDiff (A := totv (mset V 337 l 1)) (B := strv (mset V 337 l 1)) h.1 e4 (by rw [ms_k (by omega)]; exact e1) (by rw [ms_k (by omega)]; exact e2)) ?_
        rintro x s5 ⟨rfl, w1, w2⟩
        exact wp_some ⟨rfl, w1, ((d4.trans e5).set (by omega)).trans w2⟩
      · unfold fX7_without
        refine wp_stf ?_
        refine wp_bnd _ (r_isLine h.1 hR.s20.1 ha) ?_
        rintro x s' ⟨h0, h1', rfl⟩
        refine iNe0 (fun _ => ?_) (fun h => by omega)
        refine rI l rfl (by omega) ?_
        rw [hR.s20.1.2 337 _ (by omega) (by omega)]
        refine iEq0 (fun _ => ?_) (fun g => absurd hd g)
        refine wp_bnd _ (r_before h hfu hR.s20) ?_
        rintro x s2 ⟨rfl, d2, d3, d4, d5⟩
        refine wp_stf (wI l rfl (by omega) ?_)
        rw [n1_1]
        refine wp_bnd _ (r_what h1 hfu d3.s47 (by omega)) ?_
        rintro x s3 ⟨rfl, e2, e3, e4, e5, e6⟩
        refine wI l rfl (by omega) ?_
        rw [n1_0]
        rw [hd] at e4
        refine wp_bnd _ (r_strandedNow (V := mset V 337 l 1) h1.1 hfu ?_ (fun s hs => ?_) (fun s hs => ?_)) ?_
        · rw [ms_k (by omega), ms_k (by omega), e3.1.j (by omega), ms_k (by omega)]
        · rw [ms_k (by omega), ms_k (by omega), e3.2.1 s hs, ms_k (by omega)]
        · rw [ms_k (by omega)]; exact (e2.1 s hs).1
        · rintro x s' ⟨rfl, rfl⟩
          refine wp_bnd _ (r_tells (B := totv V) e4 ?_) ?_
          · rw [ms_k (by omega), e6.at (by omega), ms_k (by omega), ms_eq]
          · rintro x s' ⟨rfl, w1, w2⟩
            exact wp_some ⟨rfl, w1, (((lo20 σ 0).trans (d4.set (by omega))).trans (e5.set (by omega))).trans w2⟩
    · refine op_same h (-2) (fun σ hC => ?_) (fun σ hR => ?_)
      · unfold fX6_without
        refine wp_bnd _ (c_hasLine h.1 hC.1 ha) ?_
        rintro x s' ⟨h0, h1', rfl⟩
        refine iNe0 (fun _ => ?_) (fun h => by omega)
        refine wp_rfd (rR l rfl (by omega) ?_)
        rw [show pl (σ (pl (σ 136 0)) l) = PL σ l from rfl, (hC.1.ln hl).2.2.2.2.1]
        exact iEq0 (fun g => absurd g hd) (fun g => wp_some ⟨rfl, CP.refl σ⟩)
      · unfold fX7_without
        refine wp_stf ?_
        refine wp_bnd _ (r_isLine h.1 hR.s20.1 ha) ?_
        rintro x s' ⟨h0, h1', rfl⟩
        refine iNe0 (fun _ => ?_) (fun h => by omega)
        refine rI l rfl (by omega) ?_
        rw [hR.s20.1.2 337 _ (by omega) (by omega)]
        exact iEq0 (fun g => absurd g hd) (fun g => wp_some ⟨rfl, rp20 σ 0⟩)
  · refine op_same h (-1) (fun σ hC => ?_) (fun σ hR => ?_)
    · unfold fX6_without
      refine wp_bnd _ (c_hasLine h.1 hC.1 ha) ?_
      rintro x s' ⟨h0, h1, rfl⟩
      exact iNe0 (fun _ => by omega) (fun h => wp_some ⟨rfl, CP.refl σ⟩)
    · unfold fX7_without
      refine wp_stf ?_
      refine wp_bnd _ (r_isLine h.1 hR.s20.1 ha) ?_
      rintro x s' ⟨h0, h1, rfl⟩
      exact iNe0 (fun _ => by omega) (fun h => wp_some ⟨rfl, rp20 σ 0⟩)
theorem op_shut (h : OkA t V) (hfu : 1000 < fu) (ha : R32 a) : Op t V (fX6_shut fu a) (fX7_shut fu a) := by
  by_cases hc : 0 ≤ a ∧ a < 10
  · obtain ⟨s, rfl⟩ := Int.eq_ofNat_of_zero_le hc.1
    have hs : s < 10 := by omega
    have h339 := (h.1.2.2.2.2.1 s hs).2
    by_cases hd : V 339 s = 0
    · have h1 := h.setS' (k := 339) (a := 1) (s := s) (by omega)
      refine ⟨totv (mset V 339 s 1), row2 V (totv (mset V 339 s 1) - totv V) (strv (mset V 339 s 1)), (row2_ok h).up, fun σ hC => ?_, fun σ hR => ?_⟩
      · unfold fX6_shut
        refine wp_bnd _ (c_isStop fu σ ha) ?_
        rintro x s' ⟨h0, h1', rfl⟩
        refine iNe0 (fun _ => ?_) (fun h => by omega)
        refine rS s rfl hs ?_
        rw [(hC.1.2.2.2.2.2.2.1 s hs).2]
        refine iEq0 (fun _ => ?_) (fun g => absurd hd g)
        refine wp_bnd _ (c_totalNow h hfu hC) ?_
        rintro x s2 ⟨rfl, d2, d3, d4, d5⟩
        refine wp_stz (Or.inr rfl) ?_
        have hC1 : ClsA (mset V 339 s 1) (mset s2 (283 + 4 * s) 1 1) := clsA_setS d3 h.1 hs (by omega)
        refine wp_bnd _ (c_findTotal h1 hfu hC1) ?_
        intro _ s4 ⟨e1, e2, e3, e4, e5, e6⟩
        refine wp_stz (Or.inl rfl) ?_
        have hb : ClsA V (mset s4 (283 + 4 * s) 1 0) := by
          have := clsA_setS (k := 339) (f := 1) (a := V 339 s) e4 h1.1 hs (by omega)
          rw [mset_back, hd] at this
          exact this
        refine wp_bnd _ (c_tellDiff (A := totv (mset V 339 s 1)) (B := strv (mset V 339 s 1)) h.1 hb (by rw [ms_k (by omega)]; exact e1) (by rw [ms_k (by omega)]; exact e2)) ?_
        rintro x s5 ⟨rfl, w1, w2⟩
        exact wp_some ⟨rfl, w1, (((d4.set (by omega)).trans e5).set (by omega)).trans w2⟩
      · unfold fX7_shut
        refine wp_stf ?_
        refine wp_bnd _ (r_isStop fu _ ha) ?_
        rintro x s' ⟨h0, h1', rfl⟩
        refine iNe0 (fun _ => ?_) (fun h => by omega)
        refine rI s rfl hs ?_
        rw [hR.s20.1.2 339 _ (by omega) (by omega)]
        refine iEq0 (fun _ => ?_) (fun g => absurd hd g)
        refine wp_bnd _ (r_before h hfu hR.s20) ?_
        rintro x s2 ⟨rfl, d2, d3, d4, d5⟩
        refine wp_stf (wI s rfl hs ?_)
        rw [n1_1]
        refine wp_bnd _ (r_what h1 hfu d3.s47 (by omega)) ?_
        rintro x s3 ⟨rfl, e2, e3, e4, e5, e6⟩
        refine wI s rfl hs ?_
        rw [n1_0]
        rw [hd] at e4
        refine wp_bnd _ (r_strandedNow (V := mset V 339 s 1) h1.1 hfu ?_ (fun q hq => ?_) (fun q hq => ?_)) ?_
        · rw [ms_k (by omega), ms_k (by omega), e3.1.j (by omega), ms_k (by omega)]
        · rw [ms_k (by omega), ms_k (by omega), e3.2.1 q hq, ms_k (by omega)]
        · rw [ms_k (by omega)]; exact (e2.1 q hq).1
        · rintro x s' ⟨rfl, rfl⟩
          refine wp_bnd _ (r_tells (B := totv V) e4 ?_) ?_
          · rw [ms_k (by omega), e6.at (by omega), ms_k (by omega), ms_eq]
          · rintro x s' ⟨rfl, w1, w2⟩
            exact wp_some ⟨rfl, w1, (((lo20 σ 0).trans (d4.set (by omega))).trans (e5.set (by omega))).trans w2⟩
    · refine op_same h (-2) (fun σ hC => ?_) (fun σ hR => ?_)
      · unfold fX6_shut
        refine wp_bnd _ (c_isStop fu σ ha) ?_
        rintro x s' ⟨h0, h1', rfl⟩
        refine iNe0 (fun _ => ?_) (fun h => by omega)
        refine rS s rfl hs ?_
        rw [(hC.1.2.2.2.2.2.2.1 s hs).2]
        exact iEq0 (fun g => absurd g hd) (fun g => wp_some ⟨rfl, CP.refl σ⟩)
      · unfold fX7_shut
        refine wp_stf ?_
        refine wp_bnd _ (r_isStop fu _ ha) ?_
        rintro x s' ⟨h0, h1', rfl⟩
        refine iNe0 (fun _ => ?_) (fun h => by omega)
        refine rI s rfl hs ?_
        rw [hR.s20.1.2 339 _ (by omega) (by omega)]
        exact iEq0 (fun g => absurd g hd) (fun g => wp_some ⟨rfl, rp20 σ 0⟩)
  · refine op_same h (-1) (fun σ hC => ?_) (fun σ hR => ?_)
    · unfold fX6_shut
      refine wp_bnd _ (c_isStop fu σ ha) ?_
      rintro x s' ⟨h0, h1, rfl⟩
      exact iNe0 (fun _ => by omega) (fun h => wp_some ⟨rfl, CP.refl σ⟩)
    · unfold fX7_shut
      refine wp_stf ?_
      refine wp_bnd _ (r_isStop fu _ ha) ?_
      rintro x s' ⟨h0, h1, rfl⟩
      exact iNe0 (fun _ => by omega) (fun h => wp_some ⟨rfl, rp20 σ 0⟩)
theorem c_canBeMore (hP : 1 ≤ σ P 0 ∧ σ P 0 ≤ 60) (ha : R32 a) : wp (fX6_canBeMore fu P a σ) (fun r σ' => (r = 0 ∨ r = 1) ∧ (r = 1 ↔ -59 ≤ a ∧ a ≤ 59 ∧ 1 ≤ σ P 0 + a ∧ σ P 0 + a ≤ 60) ∧ σ = σ') := by
  unfold fX6_canBeMore
  refine wp_jn (iLt (fun g => wp_rtz (Or.inl rfl) ⟨Or.inl rfl, by omega, rfl⟩) (fun g1 => ?_) ha)
  refine iLe (fun g2 => ?_) (fun g => wp_rtz (Or.inl rfl) ⟨Or.inl rfl, by omega, rfl⟩) ha
  refine wp_lt (wp_jn (wp_jn ?_))
  refine iLt (fun g => wp_rtz (Or.inl rfl) ⟨Or.inl rfl, by omega, rfl⟩) (fun g3 => ?_)
  exact iLt (fun g => wp_rtz (Or.inl rfl) ⟨Or.inl rfl, by omega, rfl⟩) (fun g4 => wp_rtz (Or.inr rfl) ⟨Or.inr rfl, by omega, rfl⟩)
theorem c_withMore (h : OkA t V) (hfu : 1000 < fu) (hl : l < nn V) (hk : 1 ≤ V 329 l + a ∧ V 329 l + a ≤ 60) (hC : ClsA V σ) : wp (fX6_findTotalWithMore fu (PL σ l) a σ) (fun _ s => s 136 8 = totv (mset V 329 l (V 329 l + a)) ∧ s 136 9 = strv (mset V 329 l (V 329 l + a)) ∧ ClsA V s ∧ Hi σ s ∧ ∀ m, PL s m = PL σ m) := by
  have hP := hC.1.isL h.1 hl
  unfold fX6_findTotalWithMore
  refine wp_stf ?_
  rw [(hC.1.ln hl).1]
  refine wp_bnd _ (c_whatL h (h.setL' (k := 329) (a := V 329 l + a) hl (by omega)) hfu hl (by omega) hC) ?_
  intro _ s4 ⟨e1, e2, e3, e4, e5, e6, e7⟩
  refine wp_stf ?_
  rw [e7, show V 329 l + a - a = V 329 l by omega]
  refine wp_some ⟨by rw [ms_k (by omega)]; exact e1, by rw [ms_k (by omega)]; exact e2, e4, e5.set (by omega), fun m => ?_⟩
  have hT4 := e3.1.1
  have hP4 : PL s4 l = PL σ l := e6 l
  rw [(tab_mv hT4 (σ' := mset s4 (PL σ l) 0 (V 329 l)) (ms_k (by omega)) (ms_k (by omega)) (fun j => ms_k (by omega)) (fun j => ms_k (by omega))).2.1, e6]
theorem r_totalWith (h : OkA t V) (hfu : 1000 < fu) (hl : l < nn V) (hk : 1 ≤ V 329 l + a ∧ V 329 l + a ≤ 60) (hR : RefA V σ) : wp (fX7_totalWith fu (l : Int) a σ) (fun r s => r = totv (mset V 329 l (V 329 l + a)) ∧ (∀ q, q < 10 → s 346 q = cv (mset V 329 l (V 329 l + a)) q) ∧ RefA V s ∧ Lo σ s ∧ s 328 47 = σ 328 47) := by
  have hn := h.1.n
  unfold fX7_totalWith
  refine rI l rfl (by omega) (wI l rfl (by omega) ?_)
  rw [hR.1.2 329 _ (by omega) (by omega)]
  refine wp_bnd _ (r_what (h.setL' (k := 329) (a := V 329 l + a) hl (by omega)) hfu hR (by omega)) ?_
  rintro x s3 ⟨rfl, e2, e3, e4, e5, e6⟩
  refine rI l rfl (by omega) (wI l rfl (by omega) ?_)
  rw [e3.1.2 329 _ (by omega) (by omega), ms_eq, show V 329 l + a - a = V 329 l by omega]
  refine wp_some ⟨rfl, fun q hq => by rw [ms_k (by omega)]; exact (e2.1 q hq).1, e4, e5.set (by omega), ?_⟩
  rw [ms_k (by omega), e6.at (by omega), ms_k (by omega)]
theorem op_more (h : OkA t V) (hfu : 1000 < fu) (ha : R32 a) (hb : R32 b) : Op t V (fX6_more fu a b) (fX7_more fu a b) := by
  have hn := h.1.n
  by_cases hc : (0 ≤ a ∧ a < V 328 9) ∧ -59 ≤ b ∧ b ≤ 59 ∧ 1 ≤ V 329 a.toNat + b ∧ V 329 a.toNat + b ≤ 60
  · obtain ⟨l, rfl⟩ := Int.eq_ofNat_of_zero_le hc.1.1
    rw [Int.toNat_natCast] at hc
    have hl : l < nn V := by omega
    have hfr := (h.1.ok hl).1
    have h1 := h.setL' (k := 329) (a := V 329 l + b) hl (by omega)
    refine ⟨totv (mset V 329 l (V 329 l + b)), row2 V (totv (mset V 329 l (V 329 l + b)) - totv V) (strv (mset V 329 l (V 329 l + b))), (row2_ok h).up, fun σ hC => ?_, fun σ hR => ?_⟩
    · have e0 := (hC.1.ln hl).1
      unfold fX6_more
      refine wp_bnd _ (c_hasLine h.1 hC.1 ha) ?_
      rintro x s' ⟨h0, h1', rfl⟩
      refine wp_jn (iEq0 (fun h => by omega) (fun _ => ?_))
      refine wp_rfd (rR l rfl (by omega) ?_)
      rw [show pl (σ (pl (σ 136 0)) l) = PL σ l from rfl]
      refine wp_bnd _ (c_canBeMore (by rw [e0]; exact hfr) hb) ?_
      rintro x s' ⟨g0, g1, rfl⟩
      rw [e0] at g1
      refine iNe0 (fun _ => ?_) (fun h => by omega)
      refine wp_bnd _ (c_totalNow h hfu hC) ?_
      rintro x s2 ⟨rfl, d2, d3, d4, d5⟩
      refine wp_rfd (rR l rfl (by omega) ?_)
      rw [show pl (s2 (pl (s2 136 0)) l) = PL s2 l from rfl]
      refine wp_bnd _ (c_withMore h hfu hl (by omega) d3) ?_
      intro _ s4 ⟨e1, e2, e3, e4, e5⟩
      refine wp_bnd _ (c_tellDiff h.1 e3 e1 e2) ?_
      rintro x s5 ⟨rfl, w1, w2⟩
      exact wp_some ⟨rfl, w1, (d4.trans e4).trans w2⟩
    · unfold fX7_more
      refine wp_stf ?_
      refine wp_bnd _ (r_isLine h.1 hR.s20.1 ha) ?_
      rintro x s' ⟨h0, h1', rfl⟩
      refine wp_jn (iEq0 (fun h => by omega) (fun _ => ?_))
      rw [w32_id hb]
      refine wp_bnd _ (r_in fu (by omega) (by omega) (by omega)) ?_
      rintro x s' ⟨g0, g1, rfl⟩
      refine iEq0 (fun h => by omega) (fun _ => ?_)
      refine rI l rfl (by omega) ?_
      rw [hR.s20.1.2 329 _ (by omega) (by omega), w32_sm (by omega) (by omega)]
      refine wp_bnd _ (r_in fu (by omega) (by omega) (by omega)) ?_
      rintro x s' ⟨w0, w1, rfl⟩
      refine iNe0 (fun _ => ?_) (fun h => by omega)
      refine wp_bnd _ (r_before h hfu hR.s20) ?_
      rintro x s2 ⟨rfl, d2, d3, d4, d5⟩
      refine wp_stf ?_
      refine wp_bnd _ (r_totalWith h hfu hl (by omega) d3.s47) ?_
      rintro x s3 ⟨rfl, e2, e3, e4, e5⟩
      refine wp_bnd _ (r_strandedNow (V := mset V 329 l (V 329 l + b)) h1.1 hfu ?_ (fun q hq => ?_) e2) ?_
      · rw [e3.1.j (by omega), ms_k (by omega)]
      · rw [e3.2.1 q hq, ms_k (by omega)]
      · rintro x s' ⟨rfl, rfl⟩
        refine wp_bnd _ (r_tells (B := totv V) e3 ?_) ?_
        · rw [e5, ms_eq]
        · rintro x s' ⟨rfl, w1, w2⟩
          exact wp_some ⟨rfl, w1, (((lo20 σ 0).trans (d4.set (by omega))).trans e4).trans w2⟩
  · refine op_same h (-1) (fun σ hC => ?_) (fun σ hR => ?_)
    · unfold fX6_more
      refine wp_bnd _ (c_hasLine h.1 hC.1 ha) ?_
      rintro x s' ⟨h0, h1, rfl⟩
      refine wp_jn (iEq0 (fun h => wp_some ⟨rfl, CP.refl σ⟩) (fun _ => ?_))
      obtain ⟨l, rfl⟩ := Int.eq_ofNat_of_zero_le (show 0 ≤ a by omega)
      rw [Int.toNat_natCast] at hc
      have hl : l < nn V := by omega
      have e0 := (hC.1.ln hl).1
      refine wp_rfd (rR l rfl (by omega) ?_)
      rw [show pl (σ (pl (σ 136 0)) l) = PL σ l from rfl]
      refine wp_bnd _ (c_canBeMore (by rw [e0]; exact (h.1.ok hl).1) hb) ?_
      rintro x s' ⟨g0, g1, rfl⟩
      rw [e0] at g1
      exact iNe0 (fun _ => by omega) (fun h => wp_some ⟨rfl, CP.refl σ⟩)
    · unfold fX7_more
      refine wp_stf ?_
      refine wp_bnd _ (r_isLine h.1 hR.s20.1 ha) ?_
      rintro x s' ⟨h0, h1, rfl⟩
      refine wp_jn (iEq0 (fun h => wp_some ⟨rfl, rp20 σ 0⟩) (fun _ => ?_))
      obtain ⟨l, rfl⟩ := Int.eq_ofNat_of_zero_le (show 0 ≤ a by omega)
      rw [Int.toNat_natCast] at hc
      have hl : l < nn V := by omega
      have hfr := (h.1.ok hl).1
      rw [w32_id hb]
      refine wp_bnd _ (r_in fu (by omega) (by omega) (by omega)) ?_
      rintro x s' ⟨g0, g1, rfl⟩
      refine iEq0 (fun h => wp_some ⟨rfl, rp20 σ 0⟩) (fun _ => ?_)
      refine rI l rfl (by omega) ?_
      rw [hR.s20.1.2 329 _ (by omega) (by omega), w32_sm (by omega) (by omega)]
      refine wp_bnd _ (r_in fu (by omega) (by omega) (by omega)) ?_
      rintro x s' ⟨w0, w1, rfl⟩
      exact iNe0 (fun _ => by omega) (fun h => wp_some ⟨rfl, rp20 σ 0⟩)
theorem c_towards (h : OkA t V) (hfu : 1000 < fu) (hs : s < 10) (hC : ClsA V σ) : wp (fX6_findTotalTowards fu (s : Int) σ) (fun _ σ' => σ' 136 8 = totv (mset V 328 11 (s : Int)) ∧ σ' 136 9 = strv (mset V 328 11 (s : Int)) ∧ ClsA V σ' ∧ Hi σ σ') := by
  unfold fX6_findTotalTowards
  refine wp_lt (wp_stf ?_)
  have h1 := h.setN' (j := 11) (a := (s : Int)) (by omega)
  have hC1 : ClsA (mset V 328 11 (s : Int)) (mset σ 136 4 (s : Int)) := clsA_setN hC h.1 (by omega)
  refine wp_bnd _ (c_findTotal h1 hfu hC1) ?_
  intro _ s4 ⟨e1, e2, e3, e4, e5, e6⟩
  refine wp_stf ?_
  rw [hC.1.2.2.2.1]
  have hb : ClsA V (mset s4 136 4 (V 328 11)) := by
    have := clsA_setN (j := 11) (f := 4) (a := V 328 11) e4 h1.1 (by omega)
    rw [mset_back] at this
    exact this
  exact wp_some ⟨by rw [ms_j (by omega)]; exact e1, by rw [ms_j (by omega)]; exact e2, hb, (((Hi.refl σ).set (by omega)).trans e5).set (by omega)⟩
theorem op_towards (h : OkA t V) (hfu : 1000 < fu) (ha : R32 a) : Op t V (fX6_towards fu a) (fX7_towards fu a) := by
  by_cases hc : 0 ≤ a ∧ a < 10
  · obtain ⟨s, rfl⟩ := Int.eq_ofNat_of_zero_le hc.1
    have hs : s < 10 := by omega
    have h1 := h.setN' (j := 11) (a := (s : Int)) (by omega)
    refine ⟨totv (mset V 328 11 (s : Int)), row2 V (totv (mset V 328 11 (s : Int)) - totv V) (strv (mset V 328 11 (s : Int))), (row2_ok h).up, fun σ hC => ?_, fun σ hR => ?_⟩
    · unfold fX6_towards
      refine wp_bnd _ (c_isStop fu σ ha) ?_
      rintro x s' ⟨h0, h1', rfl⟩
      refine iNe0 (fun _ => ?_) (fun h => by omega)
      refine wp_bnd _ (c_totalNow h hfu hC) ?_
      rintro x s2 ⟨rfl, d2, d3, d4, d5⟩
      refine wp_bnd _ (c_towards h hfu hs d3) ?_
      intro _ s4 ⟨e1, e2, e3, e4⟩
      refine wp_bnd _ (c_tellDiff h.1 e3 e1 e2) ?_
      rintro x s5 ⟨rfl, w1, w2⟩
      exact wp_some ⟨rfl, w1, (d4.trans e4).trans w2⟩
    · unfold fX7_towards
      refine wp_stf ?_
      refine wp_bnd _ (r_isStop fu _ ha) ?_
      rintro x s' ⟨h0, h1', rfl⟩
      refine iNe0 (fun _ => ?_) (fun h => by omega)
      refine wp_bnd _ (r_before h hfu hR.s20) ?_
      rintro x s2 ⟨rfl, d2, d3, d4, d5⟩
      refine wp_stf (wp_lt (wp_stf ?_))
      refine wp_bnd _ (r_what h1 hfu d3.s47 (by omega)) ?_
      rintro x s3 ⟨rfl, e2, e3, e4, e5, e6⟩
      refine wp_bnd _ (r_strandedNow (V := mset V 328 11 (s : Int)) h1.1 hfu (e3.1.j (by omega)) e3.2.1 (fun q hq => (e2.1 q hq).1)) ?_
      rintro x s' ⟨rfl, rfl⟩
      refine wp_stf ?_
      rw [ms_j (by omega), d3.1.j (by omega)]
      refine wp_bnd _ (r_tells (B := totv V) e4 ?_) ?_
      · rw [ms_j (by omega), e6.at (by omega), ms_j (by omega), ms_eq]
      · rintro x s' ⟨rfl, w1, w2⟩
        exact wp_some ⟨rfl, w1, (((lo20 σ 0).trans (d4.set (by omega))).trans (e5.set (by omega))).trans w2⟩
  · refine op_same h (-1) (fun σ hC => ?_) (fun σ hR => ?_)
    · unfold fX6_towards
      refine wp_bnd _ (c_isStop fu σ ha) ?_
      rintro x s' ⟨h0, h1, rfl⟩
      exact iNe0 (fun _ => by omega) (fun h => wp_some ⟨rfl, CP.refl σ⟩)
    · unfold fX7_towards
      refine wp_stf ?_
      refine wp_bnd _ (r_isStop fu _ ha) ?_
      rintro x s' ⟨h0, h1, rfl⟩
      exact iNe0 (fun _ => by omega) (fun h => wp_some ⟨rfl, rp20 σ 0⟩)
end WHATIF
