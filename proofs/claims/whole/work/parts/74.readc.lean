/-! ===== the class reads lines ===== -/
def LnQ (x : zLn) (σ : Mem) (Q : Nat) : Prop := σ Q 0 = x.1 ∧ σ Q 1 = (x.2.1 : Int) ∧ σ Q 2 = 50 ∧ σ Q 3 = 0 ∧ σ Q 4 = 0 ∧ (∀ p, p < x.2.1 → σ (Q + 1) p = x.2.2.1 p) ∧ (∀ p, p + 1 < x.2.1 → σ (Q + 2) p = x.2.2.2 p ∧ σ (Q + 3) p = 0 ∧ σ (Q + 4) p = 0)
def FQ (Q : Nat) (σ σ' : Mem) : Prop := ∀ k j, (k = 1 ∧ 4 ≤ j ∧ j ≤ 6) ∨ (Q ≤ k ∧ k ≤ Q + 4) ∨ σ' k j = σ k j
def FrQ (σ σ' : Mem) : Prop := ∀ k j, (k = 1 ∧ 3 ≤ j ∧ j ≤ 6) ∨ (∃ q, q < 12 ∧ QL σ q ≤ k ∧ k ≤ QL σ q + 4) ∨ σ' k j = σ k j
def ClQ (LS : Nat → zLn) (m : Nat) (σ : Mem) : Prop := Tab σ ∧ σ 1 3 = (m : Int) ∧ m ≤ 12 ∧ ∀ k, k < m → LnQ (LS k) σ (QL σ k)
section READC
variable {V V' U σ σ' σ'' X W : Mem} {z : Nat → Int} {N a m room c Q fu k j p i t : Nat} {v x f ch : Int} {w : zWS} {st mi st' mi' : Nat → Int} {LS : Nat → zLn}
theorem LnQ.ext (h : LnQ (f, c, st, mi) σ Q) (e1 : ∀ p, p < c → st p = st' p) (e2 : ∀ p, p + 1 < c → mi p = mi' p) : LnQ (f, c, st', mi') σ Q := by
  obtain ⟨h1, h2, h3, h4, h5, h6, h7⟩ := h
  exact ⟨h1, h2, h3, h4, h5, fun p hp => (h6 p hp).trans (e1 p hp), fun p hp => ⟨(h7 p hp).1.trans (e2 p hp), (h7 p hp).2⟩⟩
theorem LnQ.mv {y : zLn} (h : LnQ y σ Q) (e : ∀ k j, Q ≤ k → k ≤ Q + 4 → σ' k j = σ k j) : LnQ y σ' Q := by
  obtain ⟨h1, h2, h3, h4, h5, h6, h7⟩ := h
  refine ⟨by rw [e _ _ (by omega) (by omega)]; exact h1, by rw [e _ _ (by omega) (by omega)]; exact h2, by rw [e _ _ (by omega) (by omega)]; exact h3, by rw [e _ _ (by omega) (by omega)]; exact h4, by rw [e _ _ (by omega) (by omega)]; exact h5, fun p hp => by rw [e _ _ (by omega) (by omega)]; exact h6 p hp, fun p hp => ?_⟩
  rw [e _ _ (by omega) (by omega), e _ _ (by omega) (by omega), e _ _ (by omega) (by omega)]; exact h7 p hp
theorem FQ.trans (h : FQ Q σ σ') (g : FQ Q σ' σ'') : FQ Q σ σ'' := by
  intro k j
  have a := h k j
  have b := g k j
  omega
theorem Fr1.fq (h : Fr1 σ σ') : FQ Q σ σ' := fun k j => by have := h k j; omega
theorem FQ.tx {b : Nat} (h : FQ Q σ σ') (hQ : 4 ≤ Q) (hT : TxC z N a σ) (e : σ' 1 5 = (b : Int)) : TxC z N b σ' := ⟨by rw [← hT.1]; have := h 1 1; omega, fun i hi => by rw [← hT.2.1 i hi]; have := h 2 i; omega, e⟩
theorem c_goesTo (hfu : 1000 < fu) (hL : LnQ (f, c, st, mi) σ Q) (hc : c ≤ 8) (hst : ∀ p, p < c → 0 ≤ st p ∧ st p ≤ 9) (hv : R32 v) : wp (fX1_goesTo fu Q v σ) (fun r σ' => r = hsI st v c ∧ σ = σ') := by
  unfold fX1_goesTo
  refine for1 (f := fX1_goesTo_L2 fu Q v _ _) c (fun i s => hsI st v i = 0 ∧ σ = s) ?_ ?_ (i := 0) ⟨rfl, rfl⟩
  · rintro n i s hi ⟨j1, rfl⟩ hrec
    have hs := hst i hi
    rw [fX1_goesTo_L2, show σ Q 1 = (c : Int) from hL.2.1]
    refine iLe (fun h => by have h : (c : Int) ≤ (i : Int) := h; omega) (fun _ => ?_)
    refine rI i rfl (by omega) ?_
    rw [hL.2.2.2.2.2.1 i hi]
    refine iNe (fun g => hrec _ ⟨?_, rfl⟩) (fun g => wp_rtz (Or.inr rfl) ⟨(hsI_found g c hi).symm, rfl⟩) (by show R32 (st i); omega)
    have e : hsI st v (i + 1) = hsI st v i := if_neg g
    rw [e]; exact j1
  · rintro n s ⟨j1, rfl⟩
    rw [fX1_goesTo_L2, show σ Q 1 = (c : Int) from hL.2.1]
    exact iLe (fun _ => wp_rtz (Or.inl rfl) ⟨j1.symm, rfl⟩) (fun h => by have h : (c : Int) < (c : Int) := h; omega)
theorem c_lead (hL : LnQ (f, c, st, mi) σ Q) (hc : c < 8) : wp (fX1_lead fu Q v x σ) (fun _ σ' => LnQ (f, c + 1, upf st c x, upf mi (c - 1) v) σ' Q ∧ ∀ k j, (Q ≤ k ∧ k ≤ Q + 4) ∨ σ' k j = σ k j) := by
  obtain ⟨h1, h2, h3, h4, h5, h6, h7⟩ := hL
  have h2 : σ Q 1 = (c : Int) := h2
  have h6 : ∀ p, p < c → σ (Q + 1) p = st p := h6
  have h7 : ∀ p, p + 1 < c → σ (Q + 2) p = mi p ∧ σ (Q + 3) p = 0 ∧ σ (Q + 4) p = 0 := h7
  unfold fX1_lead
  rw [h2]
  refine iLt (fun _ => ?_) (fun h => by omega)
  refine wp_jn (iLe0 (fun g => ?_) (fun g => ?_))
  · have hc0 : c = 0 := by omega
    subst hc0
    dsimp only
    rw [h2]
    refine wI 0 rfl (by omega) (wp_stf ?_)
    rw [ms_k (by omega), h2]
    refine wp_some ⟨⟨?_, ?_, ?_, ?_, ?_, fun p hp => ?_, fun p hp => ?_⟩, fun k j => ?_⟩
    · rw [ms_j (by omega), ms_k (by omega)]; exact h1
    · rw [ms_eq]; rfl
    · rw [ms_j (by omega), ms_k (by omega)]; exact h3
    · rw [ms_j (by omega), ms_k (by omega)]; exact h4
    · rw [ms_j (by omega), ms_k (by omega)]; exact h5
    · have hp : p < 0 + 1 := hp
      have e : p = 0 := by omega
      subst e
      rw [ms_k (by omega), ms_eq]
      show x = upf st 0 x 0
      unfold upf; rw [if_pos rfl]
    · have hp : p + 1 < 0 + 1 := hp
      omega
    · by_cases e : k = Q ∨ k = Q + 1
      · left; omega
      · rw [ms_k (by omega), ms_k (by omega)]; exact Or.inr rfl
  · refine wI (c - 1) (by omega) (by omega) ?_
    rw [ms_k (by omega), h2]
    refine wI (c - 1) (by omega) (by omega) ?_
    rw [ms_k (by omega), ms_k (by omega), h2]
    refine wI (c - 1) (by omega) (by omega) ?_
    dsimp only
    rw [ms_k (by omega), ms_k (by omega), ms_k (by omega), h2]
    refine wI c rfl hc (wp_stf ?_)
    simp (disch := omega) only [ms_k]
    rw [h2]
    refine wp_some ⟨⟨?_, ?_, ?_, ?_, ?_, fun p hp => ?_, fun p hp => ?_⟩, fun k j => ?_⟩
    · simp (disch := omega) only [ms_k, ms_j]; exact h1
    · rw [ms_eq]; show (c : Int) + 1 = ((c + 1 : Nat) : Int); omega
    · simp (disch := omega) only [ms_k, ms_j]; exact h3
    · simp (disch := omega) only [ms_k, ms_j]; exact h4
    · simp (disch := omega) only [ms_k, ms_j]; exact h5
    · have hp : p < c + 1 := hp
      show _ = upf st c x p
      unfold upf
      by_cases e : p = c
      · rw [if_pos e, e, ms_k (by omega), ms_eq]
      · rw [if_neg e, ms_k (by omega), ms_j e]
        simp (disch := omega) only [ms_k]
        exact h6 p (by omega)
    · have hp : p + 1 < c + 1 := hp
      show _ = upf mi (c - 1) v p ∧ _
      unfold upf
      by_cases e : p = c - 1
      · rw [if_pos e, e]
        simp (disch := omega) only [ms_k, ms_eq]
        exact ⟨trivial, trivial, trivial⟩
      · rw [if_neg e]
        simp (disch := omega) only [ms_k, ms_j]
        exact h7 p (by omega)
    · by_cases e : Q ≤ k ∧ k ≤ Q + 4
      · exact Or.inl e
      · right; simp (disch := omega) only [ms_k]
theorem c_stop (h : TxZ z N) (hfu : 1000 < fu) (hQ : 4 ≤ Q) (hT : TxC z N a σ) (ha : a ≤ 400) (hL : LnQ (f, c, st, mi) σ Q) (hc : c < 8) (hst : ∀ p, p < c → 0 ≤ st p ∧ st p ≤ 9) : wp (fX5_readsStop fu Q v σ) (fun r σ' => ((r = 0 ∧ stW z a c st ≠ -1 ∧ σ' 1 4 = stW z a c st) ∨ (r = 1 ∧ stW z a c st = -1 ∧ σ' 1 5 = ((a + 1 : Nat) : Int) ∧ LnQ (f, c + 1, upf st c (z a - 48), upf mi (c - 1) v) σ' Q)) ∧ FQ Q σ σ') := by
  have hN := h.1
  have hbad : stW z a c st = (a : Int) → wp (bnd (fX5_fails fu (σ 1 5) σ) (fun x2 s3 => rtz x2 s3)) (fun r σ' => ((r = 0 ∧ stW z a c st ≠ -1 ∧ σ' 1 4 = stW z a c st) ∨ (r = 1 ∧ stW z a c st = -1 ∧ σ' 1 5 = ((a + 1 : Nat) : Int) ∧ LnQ (f, c + 1, upf st c (z a - 48), upf mi (c - 1) v) σ' Q)) ∧ FQ Q σ σ') := by
    intro e
    rw [hT.2.2]
    refine wp_bnd _ (c_fails σ _) ?_
    rintro r s10 ⟨rfl, w1, w2⟩
    exact wp_rtz (Or.inl rfl) ⟨Or.inl ⟨rfl, by omega, by rw [w1, e]⟩, w2.fq⟩
  unfold fX5_readsStop
  refine wp_bnd _ (c_isDigit h hT ha) ?_
  rintro r s' ⟨h0, h1, rfl⟩
  refine wp_jn (iEq0 (fun g => hbad ?_) (fun g => ?_))
  · unfold stW; rw [if_neg (fun q => by have := h1.mpr q.1; omega)]
  · have hd : dig (z a) := h1.mp (by omega)
    have hal := h.lt (i := a) (by omega)
    have hh := hsI_01 (st := st) (v := z a - 48) c
    rw [hT.2.2]
    refine rI a rfl (by omega) ?_
    rw [hT.2.1 a hal]
    refine wp_bnd _ (c_goesTo hfu hL (by omega) hst (by omega)) ?_
    rintro r2 s' ⟨rfl, rfl⟩
    refine iEq0 (fun g2 => ?_) (fun g2 => ?_)
    · rw [hT.2.2]
      refine rI a rfl (by omega) ?_
      rw [hT.2.1 a hal]
      refine wp_bnd _ (c_lead hL hc) ?_
      intro _ s2 ⟨w1, w2⟩
      refine wp_stf (wp_rtz (Or.inr rfl) ⟨Or.inr ⟨rfl, ?_, ?_, ?_⟩, fun k j => ?_⟩)
      · unfold stW; rw [if_pos ⟨hd, g2⟩]
      · rw [ms_eq]
        have := w2 1 5
        have e5 := hT.2.2
        omega
      · exact w1.mv (fun k j b1 b2 => ms_k (by omega))
      · by_cases e : k = 1 ∧ j = 5
        · left; omega
        · rw [mset_eq, if_neg e]; have := w2 k j; omega
    · have hb := hbad (by unfold stW; rw [if_neg (fun q => g2 q.2)])
      exact hb
theorem c_step (h : TxZ z N) (hfu : 1000 < fu) (hQ : 4 ≤ Q) (hT : TxC z N w.1 σ) (ha : w.1 ≤ N) (hL : LnQ (lnO f w) σ Q) (hc : w.2.1 < 8) (hw : WOk w) : wp (fX5_readsStep fu Q σ) (fun r σ' => ((r = 0 ∧ erW z w ≠ -1 ∧ σ' 1 4 = erW z w) ∨ (r = 1 ∧ erW z w = -1 ∧ σ' 1 5 = ((nxW z w).1 : Int) ∧ LnQ (lnO f (nxW z w)) σ' Q)) ∧ FQ Q σ σ') := by
  have hN := h.1
  unfold fX5_readsStep
  refine wp_bnd _ (c_sign h hT (by omega) (by omega)) ?_
  rintro r1 s1 ⟨g1, f1⟩
  refine wp_jn (wp_jn ?_)
  rcases g1 with ⟨rfl, g1, g1'⟩ | ⟨rfl, g1, g1', _⟩
  · have er : erW z w = (w.1 : Int) := by unfold erW; rw [if_pos g1]
    exact iEq0 (fun _ => wp_rtz (Or.inl rfl) ⟨Or.inl ⟨rfl, by omega, by rw [er]; exact g1'⟩, f1.fq⟩) (fun h => absurd rfl h)
  · refine iEq0 (fun h => by omega) (fun _ => ?_)
    have hal := h.lt (i := w.1) (by omega)
    have hT1 := f1.tx hT g1'
    refine wp_bnd _ (c_number h hfu hT1 (by omega) (by omega)) ?_
    rintro r2 s2 ⟨g2, f2⟩
    rcases g2 with ⟨rfl, g2, g2'⟩ | ⟨rfl, g2, g2', g2''⟩
    · have er : erW z w = rNum z 99 (w.1 + 1) := by unfold erW; rw [if_neg (fun q => q g1), if_pos g2]
      exact iEq0 (fun _ => wp_rtz (Or.inl rfl) ⟨Or.inl ⟨rfl, by rw [er]; exact g2, by rw [er]; exact g2'⟩, f1.fq.trans f2.fq⟩) (fun h => absurd rfl h)
    · refine iEq0 (fun h => by omega) (fun _ => ?_)
      have hn := rNum_ok h g2
      have hna := nA_is h hn.1
      have hT2 := f2.tx hT1 g2'
      refine wp_bnd _ (c_sign h hT2 (by omega) (by omega)) ?_
      rintro r3 s3 ⟨g3, f3⟩
      rcases g3 with ⟨rfl, g3, g3'⟩ | ⟨rfl, g3, g3', g3''⟩
      · have er : erW z w = (nA z (w.1 + 1) : Int) := by unfold erW; rw [if_neg (fun q => q g1), if_neg (fun q => q g2), if_pos g3]
        exact iEq0 (fun _ => wp_rtz (Or.inl rfl) ⟨Or.inl ⟨rfl, by omega, by rw [er]; exact g3'⟩, (f1.fq.trans f2.fq).trans f3.fq⟩) (fun h => absurd rfl h)
      · refine iEq0 (fun h => by omega) (fun _ => ?_)
        have hal3 := h.lt (i := nA z (w.1 + 1)) (by omega)
        have hT3 := f3.tx hT2 g3'
        have hL3 : LnQ (lnO f w) s3 Q := hL.mv (fun k j b1 b2 => by have := f1 k j; have := f2 k j; have := f3 k j; omega)
        rw [g3'', g2'']
        have er : erW z w = stW z (nA z (w.1 + 1) + 1) w.2.1 w.2.2.1 := by unfold erW; rw [if_neg (fun q => q g1), if_neg (fun q => q g2), if_neg (fun q => q g3)]
        refine wp_bnd _ (c_stop (v := nV z (w.1 + 1)) h hfu hQ hT3 (by omega) hL3 hc hw.2.1) ?_
        rintro r4 s4 ⟨g4, f4⟩
        have hfr : FQ Q σ s4 := ((f1.fq.trans f2.fq).trans f3.fq).trans f4
        rcases g4 with ⟨rfl, g4, g4'⟩ | ⟨rfl, g4, g4', g4''⟩
        · exact iEq0 (fun _ => wp_rtz (Or.inl rfl) ⟨Or.inl ⟨rfl, by rw [er]; exact g4, by rw [er]; exact g4'⟩, hfr⟩) (fun h => absurd rfl h)
        · exact iEq0 (fun h => by omega) (fun _ => wp_rtz (Or.inr rfl) ⟨Or.inr ⟨rfl, by rw [er]; exact g4, g4', g4''⟩, hfr⟩)
theorem c_way (h : TxZ z N) (hfu : 1000 < fu) (hQ : 4 ≤ Q) (hT : TxC z N a σ) (ha : a ≤ N) (hL : LnQ (f, 0, (fun _ => 0), (fun _ => 0)) σ Q) : wp (fX5_readsWay fu Q σ) (fun r σ' => ((r = 0 ∧ (wyE z a).1 ≠ -1 ∧ σ' 1 4 = (wyE z a).1) ∨ (r = 1 ∧ (wyE z a).1 = -1 ∧ σ' 1 5 = ((wyE z a).2.1 : Int) ∧ LnQ (lnO f (wyE z a).2) σ' Q)) ∧ FQ Q σ σ') := by
  have hN := h.1
  unfold fX5_readsWay
  refine wp_bnd _ (c_stop (v := 0) h hfu hQ hT (by omega) hL (by omega) (fun p hp => by omega)) ?_
  rintro r1 s1 ⟨g1, f1⟩
  refine wp_jn ?_
  rcases g1 with ⟨rfl, g1, g1'⟩ | ⟨rfl, g1, g1', g1''⟩
  · have er : wyE z a = (stW z a 0 (fun _ => 0), w1S z a) := if_pos g1
    rw [er]
    exact iEq0 (fun _ => wp_rtz (Or.inl rfl) ⟨Or.inl ⟨rfl, g1, g1'⟩, f1⟩) (fun h => absurd rfl h)
  · refine iEq0 (fun h => by omega) (fun _ => ?_)
    have hd : dig (z a) := by
      unfold stW at g1
      by_cases q : dig (z a) ∧ hsI (fun _ => 0) (z a - 48) 0 = 0
      · exact q.1
      · rw [if_neg q] at g1; omega
    have hal := h.lt (i := a) (by omega)
    have hT1 : TxC z N (w1S z a).1 s1 := f1.tx hQ hT g1'
    have hw1 : WOk (w1S z a) := by
      refine ⟨Nat.le_refl _, fun p hp => ?_, fun p q hp hq _ => ?_, fun p hp => ?_⟩
      · have hp : p < 1 := hp
        show 0 ≤ upf (fun _ => 0) 0 (z a - 48) p ∧ upf (fun _ => 0) 0 (z a - 48) p ≤ 9
        unfold upf; rw [if_pos (by omega)]; omega
      · have hp : p < 1 := hp
        have hq : q < 1 := hq
        omega
      · have hp : p + 1 < 1 := hp
        omega
    refine wp_bnd _ (c_step (w := w1S z a) (f := f) h hfu hQ hT1 (by show a + 1 ≤ N; omega) g1'' (by show 1 < 8; omega) hw1) ?_
    rintro r2 s2 ⟨g2, f2⟩
    rcases g2 with ⟨rfl, g2, g2'⟩ | ⟨rfl, g2, g2', g2''⟩
    · have er : wyE z a = (erW z (w1S z a), w1S z a) := by unfold wyE; rw [if_neg (fun q => q g1), if_pos g2]
      rw [er]
      exact iNe0 (fun h => absurd rfl h) (fun _ => wp_rtz (Or.inl rfl) ⟨Or.inl ⟨rfl, g2, g2'⟩, f1.trans f2⟩)
    · refine iNe0 (fun _ => ?_) (fun h => by omega)
      have er : wyE z a = wyL z 6 (nxW z (w1S z a)) := by unfold wyE; rw [if_neg (fun q => q g1), if_neg (fun q => q g2)]
      have hx := nxW_ok h hw1 g2
      have key : ∀ (fuel i : Nat) (w : zWS) (s : Mem), i ≤ 7 → 7 - i < fuel → wyE z a = wyL z (7 - i) w → WOk w → w.1 ≤ N → w.2.1 = i + 1 → TxC z N w.1 s → LnQ (lnO f w) s Q → FQ Q σ s → wp (fX5_readsWay_L21 fu Q (fun s10 => rtz 1 s10) (fun s11 => rtz 0 s11) fuel (i : Int) s) (fun r σ' => ((r = 0 ∧ (wyE z a).1 ≠ -1 ∧ σ' 1 4 = (wyE z a).1) ∨ (r = 1 ∧ (wyE z a).1 = -1 ∧ σ' 1 5 = ((wyE z a).2.1 : Int) ∧ LnQ (lnO f (wyE z a).2) σ' Q)) ∧ FQ Q σ σ') := by
        intro fuel
        induction fuel with
        | zero => intro i w s _ hf; omega
        | succ n ih =>
          intro i w s hi hf e hw hwN hwc hTs hLs hfr
          rw [fX5_readsWay_L21]
          by_cases e7 : i = 7
          · subst e7
            have e2 : wyE z a = (-1, w) := e
            rw [e2]
            exact iLe (fun _ => wp_rtz (Or.inr rfl) ⟨Or.inr ⟨rfl, rfl, hTs.2.2, hLs⟩, hfr⟩) (fun h => by omega)
          · refine iLe (fun h => by omega) (fun _ => ?_)
            rw [show 7 - i = (7 - (i + 1)) + 1 by omega] at e
            refine wp_bnd _ (c_isNext h hTs (by omega) (by omega)) ?_
            rintro r s' ⟨q0, q1, rfl⟩
            refine iEq0 (fun q => ?_) (fun q => ?_)
            · have hz : z w.1 ≠ 45 := fun g => by have := q1.mpr g; omega
              have e2 : wyE z a = (-1, w) := by rw [e]; exact if_pos hz
              rw [e2]
              exact wp_rtz (Or.inr rfl) ⟨Or.inr ⟨rfl, rfl, hTs.2.2, hLs⟩, hfr⟩
            · have hz : z w.1 = 45 := q1.mp (by omega)
              refine wp_bnd _ (c_step (w := w) (f := f) h hfu hQ hTs hwN hLs (by omega) hw) ?_
              rintro r4 s4 ⟨g4, f4⟩
              rcases g4 with ⟨rfl, g4, g4'⟩ | ⟨rfl, g4, g4', g4''⟩
              · have e2 : wyE z a = (erW z w, w) := by
                  rw [e]
                  show (if z w.1 ≠ 45 then ((-1 : Int), w) else if erW z w ≠ -1 then (erW z w, w) else wyL z (7 - (i + 1)) (nxW z w)) = _
                  rw [if_neg (fun q => q hz), if_pos g4]
                rw [e2]
                exact iNe0 (fun h => absurd rfl h) (fun _ => wp_rtz (Or.inl rfl) ⟨Or.inl ⟨rfl, g4, g4'⟩, hfr.trans f4⟩)
              · have e2 : wyE z a = wyL z (7 - (i + 1)) (nxW z w) := by
                  rw [e]
                  show (if z w.1 ≠ 45 then ((-1 : Int), w) else if erW z w ≠ -1 then (erW z w, w) else wyL z (7 - (i + 1)) (nxW z w)) = _
                  rw [if_neg (fun q => q hz), if_neg (fun q => q g4)]
                refine iNe0 (fun _ => ?_) (fun h => by omega)
                have hx := nxW_ok h hw g4
                rw [show (i : Int) + 1 = ((i + 1 : Nat) : Int) by omega]
                exact ih (i + 1) (nxW z w) s4 (by omega) (by omega) e2 hx.1 hx.2 (by show w.2.1 + 1 = i + 1 + 1; omega) (f4.tx hQ hTs g4') g4'' (hfr.trans f4)
      exact key fu 1 (nxW z (w1S z a)) s2 (by omega) (by omega) er hx.1 hx.2 rfl (f2.tx hQ hT1 g2') g2'' (f1.trans f2)
theorem c_renew (σ : Mem) (Q : Nat) (x : Int) : wp (fX1_renew fu Q x σ) (fun _ σ' => LnQ (x, 0, (fun _ => 0), (fun _ => 0)) σ' Q ∧ ∀ k j, (k = Q) ∨ σ' k j = σ k j) := by
  unfold fX1_renew
  refine wp_stf (wp_stf (wp_stf (wp_stf (wp_stz (Or.inl rfl) (wp_some ⟨⟨?_, ?_, ?_, ?_, ?_, fun p hp => ?_, fun p hp => ?_⟩, fun k j => ?_⟩)))))
  · simp (disch := omega) only [ms_j, ms_eq]
  · simp (disch := omega) only [ms_j, ms_eq]; rfl
  · simp (disch := omega) only [ms_j, ms_eq]
  · simp (disch := omega) only [ms_j, ms_eq]
  · rw [ms_eq]
  · have hp : p < 0 := hp
    omega
  · have hp : p + 1 < 0 := hp
    omega
  · by_cases e : k = Q
    · exact Or.inl e
    · right; simp (disch := omega) only [ms_k]
theorem c_return {y : zLn} {P : Nat} (hfu : 1000 < fu) (hy : OkLn y) (hL : LnQ y σ P) (hap : P + 10 < Q ∨ Q + 10 < P) : wp (fX1_becomeReturnOf fu Q P σ) (fun _ σ' => LnQ (revL y) σ' Q ∧ ∀ k j, (Q ≤ k ∧ k ≤ Q + 4) ∨ σ' k j = σ k j) := by
  have hc := hy.2.1
  unfold fX1_becomeReturnOf
  rw [hL.1]
  refine wp_bnd _ (c_renew σ Q y.1) ?_
  intro _ s1 ⟨d1, d2⟩
  have hL1 : LnQ y s1 P := hL.mv (fun k j b1 b2 => by have := d2 k j; omega)
  refine wp_lt ?_
  rw [hL1.2.1]
  refine down1 (f := fX1_becomeReturnOf_L15 fu Q P _) y.2.1 (fun i s => i ≤ y.2.1 ∧ LnQ (y.1, y.2.1 - i, (revL y).2.2.1, (revL y).2.2.2) s Q ∧ ∀ k j, (Q ≤ k ∧ k ≤ Q + 4) ∨ s k j = σ k j) ?_ ?_ (i := y.2.1) ⟨Nat.le_refl _, ?_, fun k j => by have := d2 k j; omega⟩ rfl
  · intro n i s hi ⟨j0, j1, j2⟩ hrec
    have hLs : LnQ y s P := hL.mv (fun k j b1 b2 => by have := j2 k j; omega)
    rw [fX1_becomeReturnOf_L15]
    refine iLt0 (fun h => by omega) (fun _ => ?_)
    refine rI i rfl (by omega) (rI i rfl (by omega) ?_)
    rw [hLs.2.2.2.2.2.1 i hi]
    refine wp_bnd _ (c_lead j1 (by omega)) ?_
    intro _ s2 ⟨w1, w2⟩
    refine hrec s2 ⟨by omega, ?_, fun k j => by have := w2 k j; have := j2 k j; omega⟩
    rw [show y.2.1 - (i + 1) + 1 = y.2.1 - i by omega] at w1
    refine w1.ext (fun p hp => ?_) (fun p hp => ?_)
    · unfold upf
      by_cases e : p = y.2.1 - (i + 1)
      · rw [if_pos e, e]
        show y.2.2.1 i = y.2.2.1 (y.2.1 - 1 - (y.2.1 - (i + 1)))
        rw [show y.2.1 - 1 - (y.2.1 - (i + 1)) = i by omega]
      · rw [if_neg e]
    · unfold upf
      by_cases e : p = y.2.1 - (i + 1) - 1
      · rw [if_pos e, e, (hLs.2.2.2.2.2.2 i (by omega)).1]
        show y.2.2.2 i = y.2.2.2 (y.2.1 - 2 - (y.2.1 - (i + 1) - 1))
        rw [show y.2.1 - 2 - (y.2.1 - (i + 1) - 1) = i by omega]
      · rw [if_neg e]
  · intro n s ⟨j0, j1, j2⟩
    rw [fX1_becomeReturnOf_L15]
    exact iLt0 (fun _ => wp_some ⟨j1, j2⟩) (fun h => by omega)
  · rw [Nat.sub_self]
    exact d1.ext (fun p hp => by omega) (fun p hp => by omega)
theorem FrQ.tab (hT : Tab σ) (g : FrQ σ σ') : Tab σ' ∧ (∀ l, PL σ' l = PL σ l) ∧ (∀ l, QL σ' l = QL σ l) := by
  have hne : ∀ k j, (k = 136 ∨ k = 3 ∨ k = 137 ∨ (k = 1 ∧ j = 2)) → σ' k j = σ k j := fun k j hk => by
    rcases g k j with e | ⟨q, q1, q2, q3⟩ | e
    · omega
    · have := hT.2.2.1 q q1; omega
    · exact e
  exact tab_mv hT (hne _ _ (by omega)) (hne _ _ (by omega)) (fun j => hne _ _ (by omega)) (fun j => hne _ _ (by omega))
theorem ql_apart (hT : Tab σ) {q q' : Nat} (hq : q < 12) (hq' : q' < 12) (e : q ≠ q') : QL σ q + 10 < QL σ q' ∨ QL σ q' + 10 < QL σ q := by
  have h1 := hT.2.2.1 q hq
  have h2 := hT.2.2.1 q' hq'
  have h3 : QL σ q ≠ QL σ q' := fun g => e (hT.2.2.2.2.1 q q' hq hq' g)
  omega
theorem c_line (h : TxZ z N) (hfu : 1000 < fu) (hT : TxC z N a σ) (ha : a ≤ N) (hQ : ClQ LS m σ) (hr : room ≤ 12) : wp (fX5_readsLine fu (room : Int) σ) (fun r σ' => ((r = 0 ∧ rlW z a m room ≠ -1 ∧ σ' 1 4 = rlW z a m room) ∨ (r = 1 ∧ rlW z a m room = -1 ∧ σ' 1 5 = (rlA z a : Int) ∧ ClQ (adL z a LS m) (adM z a m) σ')) ∧ FrQ σ σ') := by
  have hN := h.1
  obtain ⟨q1, q2, q3, q4⟩ := hQ
  have hf1 : ∀ {s s' : Mem}, Fr1 s s' → FrQ s s' := fun {s s'} g k j => by have := g k j; omega
  unfold fX5_readsLine
  refine wp_lt ?_
  rw [q2, hT.2.2]
  refine wp_jn ?_
  have hfail : ∀ s' : Mem, FrQ σ s' → rlW z a m room = (a : Int) → wp (bnd (fX5_fails fu (a : Int) s') (fun x2 s2 => rtz x2 s2)) (fun r σ' => ((r = 0 ∧ rlW z a m room ≠ -1 ∧ σ' 1 4 = rlW z a m room) ∨ (r = 1 ∧ rlW z a m room = -1 ∧ σ' 1 5 = (rlA z a : Int) ∧ ClQ (adL z a LS m) (adM z a m) σ')) ∧ FrQ σ σ') := by
    intro s' hfr e
    refine wp_bnd _ (c_fails s' _) ?_
    rintro r s10 ⟨rfl, w1, w2⟩
    refine wp_rtz (Or.inl rfl) ⟨Or.inl ⟨rfl, by omega, by rw [w1, e]⟩, fun k j => ?_⟩
    rcases w2 k j with g | g
    · left; omega
    · rw [g]; exact hfr k j
  have hFrefl : FrQ σ σ := fun k j => Or.inr (Or.inr rfl)
  refine iLe (fun g => hfail σ hFrefl ?_) (fun g => ?_)
  · unfold rlW; rw [if_pos (by omega)]
  · refine iLt (fun g12 => ?_) (fun g12 => hfail σ hFrefl ?_)
    · have hm12 : m < 12 := by omega
      refine wp_bnd _ (c_number h hfu hT ha (by omega)) ?_
      rintro r1 s1 ⟨g1, f1⟩
      rcases g1 with ⟨rfl, g1, g1'⟩ | ⟨rfl, g1, g1', g1''⟩
      · have er : rlW z a m room = rNum z 60 a := by unfold rlW; rw [if_neg (by omega), if_pos g1]
        exact iNe0 (fun h => absurd rfl h) (fun _ => wp_rtz (Or.inl rfl) ⟨Or.inl ⟨rfl, by rw [er]; exact g1, by rw [er]; exact g1'⟩, hf1 f1⟩)
      · refine iNe0 (fun _ => ?_) (fun h => by omega)
        have hn := rNum_ok h g1
        have hna := nA_is h hn.1
        have hT1 := f1.tx hT g1'
        have e13 : s1 1 3 = (m : Int) := by rw [← q2]; have := f1 1 3; omega
        refine wp_bnd _ (c_isNext h hT1 (by omega) (by omega)) ?_
        rintro r2 s' ⟨b0, b1, rfl⟩
        refine wp_jm (fun s2 => s1 = s2 ∧ ¬ (z (nA z a) = 61 ∧ room ≤ m + 1)) ?_ ?_
        · rintro s2 ⟨rfl, hno⟩
          -- the sign behind the number
          refine wp_ji (fun y s2 => y = (if z (nA z a) = 61 then 61 else 58) ∧ s1 = s2) ?_ ?_
          · rintro y s2 ⟨rfl, rfl⟩
            refine wp_bnd _ (c_sign h hT1 (by omega) (by split <;> omega)) ?_
            rintro r3 s3 ⟨g3, f3⟩
            rcases g3 with ⟨rfl, g3, g3'⟩ | ⟨rfl, g3, g3', g3''⟩
            · have hz : z (nA z a) ≠ 61 ∧ z (nA z a) ≠ 58 := by
                by_cases e : z (nA z a) = 61
                · rw [if_pos e] at g3; exact absurd e g3
                · rw [if_neg e] at g3; exact ⟨e, g3⟩
              have er : rlW z a m room = (nA z a : Int) := by unfold rlW; rw [if_neg (by omega), if_neg (fun q => q g1), if_neg hno, if_pos hz]
              exact iNe0 (fun h => absurd rfl h) (fun _ => wp_rtz (Or.inl rfl) ⟨Or.inl ⟨rfl, by omega, by rw [er]; exact g3'⟩, fun k j => by have := f1 k j; have := f3 k j; omega⟩)
            · refine iNe0 (fun _ => ?_) (fun h => by omega)
              have hz : ¬ (z (nA z a) ≠ 61 ∧ z (nA z a) ≠ 58) := by
                by_cases e : z (nA z a) = 61
                · exact fun q => q.1 e
                · rw [if_neg e] at g3; exact fun q => q.2 g3
              have hal := h.lt (i := nA z a) (by omega)
              have er : rlW z a m room = (wyE z (nA z a + 1)).1 := by unfold rlW; rw [if_neg (by omega), if_neg (fun q => q g1), if_neg hno, if_neg hz]
              have hfr3 : FrQ σ s3 := fun k j => by have := f1 k j; have := f3 k j; omega
              have hTab3 := FrQ.tab q1 hfr3
              have e33 : s3 1 3 = (m : Int) := by rw [← e13]; have := f3 1 3; omega
              have hT3 := f3.tx hT1 g3'
              have hQm := q1.2.2.1 m hm12
              refine wp_rfd (rR m e33 hm12 ?_)
              rw [show pl (s3 (pl (s3 1 2)) m) = QL s3 m from rfl, hTab3.2.2 m, g3'', g1'']
              refine wp_bnd _ (c_renew s3 (QL σ m) (nV z a)) ?_
              intro _ s4 ⟨d1, d2⟩
              have hT4 : TxC z N (nA z a + 1) s4 := ⟨by rw [← hT3.1]; have := d2 1 1; omega, fun i hi => by rw [← hT3.2.1 i hi]; have := d2 2 i; omega, by rw [← hT3.2.2]; have := d2 1 5; omega⟩
              refine wp_bnd _ (c_way h hfu (by omega) hT4 (by omega) d1) ?_
              rintro r5 s5 ⟨g5, f5⟩
              have hfr5 : FrQ σ s5 := fun k j => by
                rcases f5 k j with e | e | e
                · left; omega
                · right; left; exact ⟨m, hm12, by omega, by omega⟩
                · rw [e]
                  rcases d2 k j with e2 | e2
                  · right; left; exact ⟨m, hm12, by omega, by omega⟩
                  · rw [e2]; exact hfr3 k j
              have hTab5 := FrQ.tab q1 hfr5
              have e53 : s5 1 3 = (m : Int) := by rw [← e33]; have := f5 1 3; have := d2 1 3; omega
              have hold : ∀ k, k < m → LnQ (LS k) s5 (QL σ k) := fun k hk => (q4 k hk).mv (fun y j b1 b2 => by
                have hap := ql_apart q1 (show k < 12 by omega) hm12 (by omega)
                have hk12 := q1.2.2.1 k (by omega)
                have := f5 y j
                have := d2 y j
                have := f1 y j
                have := f3 y j
                omega)
              refine wp_jn (wp_jn ?_)
              rcases g5 with ⟨rfl, g5, g5'⟩ | ⟨rfl, g5, g5', g5''⟩
              · exact iEq0 (fun _ => wp_rtz (Or.inl rfl) ⟨Or.inl ⟨rfl, by rw [er]; exact g5, by rw [er]; exact g5'⟩, hfr5⟩) (fun h => absurd rfl h)
              · refine iEq0 (fun h => by omega) (fun _ => ?_)
                have hrl : rlW z a m room = -1 := by rw [er]; exact g5
                have hok := (rlL_ok h hrl).1
                refine wp_bnd (fun r s6 => r = 1 ∧ s6 1 5 = (rlA z a : Int) ∧ ClQ (adL z a LS m) (adM z a m) s6 ∧ FrQ σ s6) ?_ ?_
                · unfold fX5_keep
                  refine wp_stf (wp_jn ?_)
                  rw [e53]
                  have hfr6 : FrQ σ (mset s5 1 3 ((m : Int) + 1)) := fun k j => by
                    by_cases e : k = 1 ∧ j = 3
                    · left; omega
                    · rw [mset_eq, if_neg e]; exact hfr5 k j
                  have h65 : mset s5 1 3 ((m : Int) + 1) 1 5 = (rlA z a : Int) := by rw [ms_j (by omega)]; exact g5'
                  have h63 : mset s5 1 3 ((m : Int) + 1) 1 3 = ((m + 1 : Nat) : Int) := by rw [ms_eq]; omega
                  have hold6 : ∀ k, k < m → LnQ (LS k) (mset s5 1 3 ((m : Int) + 1)) (QL σ k) := fun k hk => (hold k hk).mv (fun y j b1 b2 => by have hk12 := q1.2.2.1 k (by omega); exact ms_k (by omega))
                  have hnew6 : LnQ (rlL z a) (mset s5 1 3 ((m : Int) + 1)) (QL σ m) := LnQ.mv (y := rlL z a) g5'' (fun y j b1 b2 => ms_k (by omega))
                  generalize mset s5 1 3 ((m : Int) + 1) = s6 at *
                  have hTab6 := FrQ.tab q1 hfr6
                  by_cases hb61 : z (nA z a) = 61
                  · refine iEq0 (fun q => by have := b1.mpr hb61; omega) (fun _ => ?_)
                    have hm1 : m + 1 < 12 := by omega
                    have hQm1 := q1.2.2.1 (m + 1) hm1
                    refine wp_rfd (rR (m + 1) h63 hm1 ?_)
                    rw [show pl (s6 (pl (s6 1 2)) (m + 1)) = QL s6 (m + 1) from rfl, hTab6.2.2]
                    refine wp_bnd _ (c_return hfu hok hnew6 (ql_apart q1 hm12 hm1 (by omega))) ?_
                    intro _ s7 ⟨w1, w2⟩
                    have e73 : s7 1 3 = ((m + 1 : Nat) : Int) := by rw [← h63]; have := w2 1 3; omega
                    refine wp_stf ?_
                    rw [e73]
                    have hfr8 : FrQ σ (mset s7 1 3 (((m + 1 : Nat) : Int) + 1)) := fun k j => by
                      by_cases e : k = 1 ∧ j = 3
                      · left; omega
                      · rw [mset_eq, if_neg e]
                        rcases w2 k j with e2 | e2
                        · right; left; exact ⟨m + 1, hm1, e2⟩
                        · rw [e2]; exact hfr6 k j
                    have hTab8 := FrQ.tab q1 hfr8
                    refine wp_rtz (Or.inr rfl) ⟨rfl, ?_, ⟨hTab8.1, ?_, ?_, fun k hk => ?_⟩, hfr8⟩
                    · rw [ms_j (by omega), ← h65]; have := w2 1 5; omega
                    · rw [ms_eq]; unfold adM; rw [if_pos hb61]; omega
                    · unfold adM; rw [if_pos hb61]; omega
                    · unfold adM at hk
                      rw [if_pos hb61] at hk
                      rw [hTab8.2.2]
                      have hk12 := q1.2.2.1 k (by omega)
                      unfold adL
                      rw [if_pos hb61]
                      unfold updL
                      by_cases e1 : k = m + 1
                      · rw [if_pos e1, e1]
                        exact w1.mv (fun y j b1 b2 => ms_k (by omega))
                      · rw [if_neg e1]
                        have hap := ql_apart q1 (show k < 12 by omega) hm1 e1
                        by_cases e2 : k = m
                        · rw [if_pos e2, e2]
                          rw [e2] at hap
                          exact hnew6.mv (fun y j b1 b2 => by rw [ms_k (by omega)]; have := w2 y j; omega)
                        · rw [if_neg e2]
                          exact (hold6 k (by omega)).mv (fun y j b1 b2 => by rw [ms_k (by omega)]; have := w2 y j; omega)
                  · refine iEq0 (fun q => ?_) (fun q => absurd (b1.mp (by omega)) hb61)
                    refine wp_rtz (Or.inr rfl) ⟨rfl, h65, ⟨hTab6.1, ?_, ?_, fun k hk => ?_⟩, hfr6⟩
                    · unfold adM; rw [if_neg hb61]; exact h63
                    · unfold adM; rw [if_neg hb61]; omega
                    · unfold adM at hk
                      rw [if_neg hb61] at hk
                      rw [hTab6.2.2]
                      unfold adL
                      rw [if_neg hb61]
                      unfold updL
                      by_cases e2 : k = m
                      · rw [if_pos e2, e2]; exact hnew6
                      · rw [if_neg e2]; exact hold6 k (by omega)
                · rintro r6 s6 ⟨rfl, k1, k2, k3⟩
                  exact iEq0 (fun h => by omega) (fun _ => wp_rtz (Or.inr rfl) ⟨Or.inr ⟨rfl, hrl, k1, k2⟩, k3⟩)
          · intro jj hj
            refine iEq0 (fun q => hj _ _ ⟨?_, rfl⟩) (fun q => hj _ _ ⟨?_, rfl⟩)
            · rw [if_neg (fun g => by have := b1.mpr g; omega)]
            · rw [if_pos (b1.mp (by omega))]
        · intro jj hj
          refine iEq0 (fun q => hj _ ⟨rfl, fun g => by have := b1.mpr g.1; omega⟩) (fun q => ?_)
          have h61 : z (nA z a) = 61 := b1.mp (by omega)
          have hbad : room ≤ m + 1 → rlW z a m room = (a : Int) := fun g => by unfold rlW; rw [if_neg (by omega), if_neg (fun q => q g1), if_pos ⟨h61, g⟩]
          rw [e13]
          refine wp_jn ?_
          refine iLe (fun g => hfail s1 (hf1 f1) (hbad (by omega))) (fun g => ?_)
          exact iLt (fun g2 => hj _ ⟨rfl, by omega⟩) (fun g2 => hfail s1 (hf1 f1) (hbad (by omega)))
    · unfold rlW; rw [if_pos (by omega)]
end READC
