/-! ===== the reference reads a way, a line ===== -/
def FrM1 (m : Nat) (σ σ' : Mem) : Prop := ∀ k j, (k = 328 ∧ (j = 27 ∨ j = 28)) ∨ (k = 343 ∧ j = m) ∨ (k = 344 ∧ 8 * m ≤ j ∧ j < 8 * m + 8) ∨ (k = 345 ∧ 8 * m ≤ j ∧ j < 8 * m + 8) ∨ σ' k j = σ k j
section READR2
variable {V V' U σ σ' σ'' X W : Mem} {z : Nat → Int} {N a m room c Q fu k j p i t n : Nat} {v x f ch e4 : Int} {w : zWS} {st mi st' mi' : Nat → Int} {LS : Nat → zLn}
theorem r_back (hfu : 1000 < fu) (hm : m + 1 < 12) (h25 : σ 328 25 = ((m + 1 : Nat) : Int)) (hc : σ 343 m = (c : Int)) (hc8 : c ≤ 8) : wp (fX7_readsBack fu σ) (fun _ σ' => σ' 328 25 = ((m + 2 : Nat) : Int) ∧ σ' 342 (m + 1) = σ 342 m ∧ σ' 343 (m + 1) = (c : Int) ∧ (∀ p, p < c → σ' 344 (8 * (m + 1) + p) = σ 344 (8 * m + (c - 1 - p))) ∧ (∀ p, p + 1 < c → σ' 345 (8 * (m + 1) + p) = σ 345 (8 * m + (c - 2 - p))) ∧ ∀ k j, (k = 328 ∧ j = 25) ∨ (k = 342 ∧ j = m + 1) ∨ (k = 343 ∧ j = m + 1) ∨ ((k = 344 ∨ k = 345) ∧ 8 * (m + 1) ≤ j) ∨ σ' k j = σ k j) := by
  unfold fX7_readsBack
  refine wp_lt ?_
  rw [h25]
  refine rI m (by omega) (by omega) (rI m (by omega) (by omega) (wI (m + 1) rfl hm ?_))
  rw [ms_k (by omega), h25, hc]
  refine wI (m + 1) rfl hm ?_
  have hfr0 : ∀ k j, (k = 342 ∧ j = m + 1) ∨ (k = 343 ∧ j = m + 1) ∨ mset (mset σ 342 (m + 1) (σ 342 m)) 343 (m + 1) (c : Int) k j = σ k j := fun k j => by
    by_cases e : (k = 342 ∧ j = m + 1) ∨ (k = 343 ∧ j = m + 1)
    · omega
    · rw [mset_eq, if_neg (by omega), mset_eq, if_neg (by omega)]; simp
  have h342 : mset (mset σ 342 (m + 1) (σ 342 m)) 343 (m + 1) (c : Int) 342 (m + 1) = σ 342 m := by rw [ms_k (by omega), ms_eq]
  have h343 : mset (mset σ 342 (m + 1) (σ 342 m)) 343 (m + 1) (c : Int) 343 (m + 1) = (c : Int) := ms_eq _ _ _ _
  generalize mset (mset σ 342 (m + 1) (σ 342 m)) 343 (m + 1) (c : Int) = s0 at *
  rw [show ((m + 1 : Nat) : Int) - 1 = (m : Int) by omega]
  refine for1 (f := fX7_readsBack_L41 fu (m : Int) (c : Int) _) c (fun i s => (∀ p, p < i → s 344 (8 * (m + 1) + p) = σ 344 (8 * m + (c - 1 - p))) ∧ ∀ k j, (k = 344 ∧ 8 * (m + 1) ≤ j) ∨ s k j = s0 k j) ?_ ?_ (i := 0) ⟨fun p hp => by omega, fun k j => Or.inr rfl⟩
  · intro n i s hi ⟨j1, j2⟩ hrec
    have e25 : s 328 25 = ((m + 1 : Nat) : Int) := by rw [← h25]; have := j2 328 25; have := hfr0 328 25; omega
    rw [fX7_readsBack_L41]
    refine iLe (fun h => by omega) (fun _ => ?_)
    unfold fX7_at
    refine wp_bs (wp_bs (rI (8 * m + (c - 1 - i)) (by omega) (by omega) ?_))
    rw [e25]
    refine wI (8 * (m + 1) + i) (by omega) (by omega) (hrec _ ⟨fun p hp => ?_, fun k j => ?_⟩)
    · by_cases e : p = i
      · rw [e, ms_eq]; have := j2 344 (8 * m + (c - 1 - i)); have := hfr0 344 (8 * m + (c - 1 - i)); omega
      · rw [ms_j (by omega)]; exact j1 p (by omega)
    · by_cases e : k = 344 ∧ j = 8 * (m + 1) + i
      · left; omega
      · rw [mset_eq, if_neg e]; exact j2 k j
  · intro n s ⟨j1, j2⟩
    rw [fX7_readsBack_L41]
    refine iLe (fun _ => ?_) (fun h => by omega)
    refine for1 (f := fX7_readsBack_L81 fu (m : Int) (c : Int) _) (c - 1) (fun i s' => (∀ p, p < i → s' 345 (8 * (m + 1) + p) = σ 345 (8 * m + (c - 2 - p))) ∧ ∀ k j, (k = 345 ∧ 8 * (m + 1) ≤ j) ∨ s' k j = s k j) ?_ ?_ (i := 0) ⟨fun p hp => by omega, fun k j => Or.inr rfl⟩
    · intro n i s' hi ⟨g1, g2⟩ hrec
      have e25 : s' 328 25 = ((m + 1 : Nat) : Int) := by rw [← h25]; have := g2 328 25; have := j2 328 25; have := hfr0 328 25; omega
      rw [fX7_readsBack_L81]
      refine iLe (fun h => by omega) (fun _ => ?_)
      unfold fX7_at
      refine wp_bs (wp_bs (rI (8 * m + (c - 2 - i)) (by omega) (by omega) ?_))
      rw [e25]
      refine wI (8 * (m + 1) + i) (by omega) (by omega) (hrec _ ⟨fun p hp => ?_, fun k j => ?_⟩)
      · by_cases e : p = i
        · rw [e, ms_eq]; have := g2 345 (8 * m + (c - 2 - i)); have := j2 345 (8 * m + (c - 2 - i)); have := hfr0 345 (8 * m + (c - 2 - i)); omega
        · rw [ms_j (by omega)]; exact g1 p (by omega)
      · by_cases e : k = 345 ∧ j = 8 * (m + 1) + i
        · left; omega
        · rw [mset_eq, if_neg e]; exact g2 k j
    · intro n s' ⟨g1, g2⟩
      rw [fX7_readsBack_L81]
      refine iLe (fun _ => ?_) (fun h => by omega)
      have e25 : s' 328 25 = ((m + 1 : Nat) : Int) := by rw [← h25]; have := g2 328 25; have := j2 328 25; have := hfr0 328 25; omega
      refine wp_stf (wp_some ⟨by rw [ms_eq, e25]; omega, ?_, ?_, fun p hp => ?_, fun p hp => ?_, fun k j => ?_⟩)
      · rw [ms_k (by omega), ← h342]; have := g2 342 (m + 1); have := j2 342 (m + 1); omega
      · rw [ms_k (by omega), ← h343]; have := g2 343 (m + 1); have := j2 343 (m + 1); omega
      · rw [ms_k (by omega), ← j1 p hp]; have := g2 344 (8 * (m + 1) + p); omega
      · rw [ms_k (by omega)]; exact g1 p (by omega)
      · by_cases e : k = 328 ∧ j = 25
        · exact Or.inl e
        · rw [mset_eq, if_neg e]
          have a := g2 k j
          have b := j2 k j
          have c := hfr0 k j
          omega
theorem FR2.m1 (h : FR2 σ σ') : FrM1 m σ σ' := fun k j => by have := h k j; omega
theorem FrM1.trans (h : FrM1 m σ σ') (g : FrM1 m σ' σ'') : FrM1 m σ σ'' := fun k j => by have := h k j; have := g k j; omega
theorem FrM1.tx {b : Nat} (h : FrM1 m σ σ') (hT : TxR z N a σ) (e : σ' 328 27 = (b : Int)) : TxR z N b σ' := ⟨by rw [← hT.1]; have := h 328 26; omega, fun i hi => by rw [← hT.2.1 i hi]; have := h 340 i; rw [show σ' 340 i = σ 340 i by omega], e⟩
theorem LnR.mv {y : zLn} (h : LnR m y σ) (hc : y.2.1 ≤ 8) (e1 : σ' 342 m = σ 342 m) (e2 : σ' 343 m = σ 343 m) (e3 : ∀ j, 8 * m ≤ j → j < 8 * m + 8 → σ' 344 j = σ 344 j ∧ σ' 345 j = σ 345 j) : LnR m y σ' := ⟨by rw [e1]; exact h.1, by rw [e2]; exact h.2.1, fun p hp => by rw [(e3 _ (by omega) (by omega)).1]; exact h.2.2.1 p hp, fun p hp => by rw [(e3 _ (by omega) (by omega)).2]; exact h.2.2.2 p hp⟩
def eEn (z : Nat → Int) (n : Nat) (w : zWS) : Int × zWS := if erW z w ≠ -1 then (erW z w, w) else wyL z n (nxW z w)
theorem rNum_r {most : Int} (h : TxZ z N) (ha : a ≤ N) : -1 ≤ rNum z most a ∧ rNum z most a ≤ 402 := by
  have hN := h.1
  unfold rNum
  split
  · omega
  · rename_i g
    have := nA_is h (show dig (z a) by omega)
    split <;> omega
theorem stW_r (ha : a ≤ 402) : -1 ≤ stW z a c st ∧ stW z a c st ≤ 402 := by unfold stW; split <;> omega
theorem r_wayL {Q : Int → Mem → Prop} {K1 K2 : Mem → PR} (h : TxZ z N) (hfu : 1000 < fu) (hm : m < 12) :
    ∀ (fuel n : Nat) (w : zWS) (s : Mem), n < fuel → WOk w → w.1 ≤ N → w.2.1 + n = 7 → TxR z N w.1 s → s 328 28 = -1 → s 328 25 = (m : Int) → LnR m (lnO f w) s → FrM1 m σ s →
      (∀ s', (eEn z n w).1 ≠ -1 → s' 328 28 = (eEn z n w).1 → FrM1 m σ s' → wp (K1 s') Q) →
      (∀ s', (eEn z n w).1 ≠ -1 → s' 328 28 = (eEn z n w).1 → s' 328 25 = (m : Int) → (∃ c : Nat, c ≤ 8 ∧ s' 343 m = (c : Int)) → FrM1 m σ s' → wp (K2 s') Q) →
      (∀ s', (eEn z n w).1 = -1 → s' 328 28 = -1 → s' 328 27 = ((eEn z n w).2.1 : Int) → s' 328 25 = (m : Int) → LnR m (lnO f (eEn z n w).2) s' → FrM1 m σ s' → wp (K2 s') Q) →
      wp (fX7_readLine_L121 fu e4 K1 K2 fuel s) Q := by
  have hN := h.1
  intro fuel
  induction fuel with
  | zero => intro n w s hf; omega
  | succ fl ih =>
    intro n w s hf hw hwN hwc hT h28 h25 hL hfr hK1 hK2 hK3
    have hc1 := hw.1
    have e343 : s 343 m = (w.2.1 : Int) := hL.2.1
    rw [fX7_readLine_L121]
    refine wp_bnd _ (r_expect h hT hwN (by omega) h28) ?_
    intro _ s1 ⟨g1, f1⟩
    rcases g1 with ⟨g1, g1', g1t⟩ | ⟨g1, g1', g1''⟩
    · have er : erW z w = (w.1 : Int) := by unfold erW; rw [if_pos g1]
      have ee : eEn z n w = (erW z w, w) := if_pos (by omega)
      rw [ee] at hK1
      rw [g1']
      refine iEq (fun g => by omega) (fun _ => hK1 s1 (by show erW z w ≠ -1; omega) (by rw [g1']; exact er.symm) (hfr.trans f1.m1))
    · rw [g1']
      refine iEq (fun _ => ?_) (fun g => absurd rfl g)
      have hal := h.lt (i := w.1) (by omega)
      have hT1 := f1.tx hT g1''
      have h25a : s1 328 25 = (m : Int) := by rw [← h25]; have := f1 328 25; omega
      refine wp_bnd _ (r_number h hfu hT1 (by omega) (by omega) g1') ?_
      intro v2 s2 ⟨g2, f2⟩
      have h25b : s2 328 25 = (m : Int) := by rw [← h25a]; have := f2 328 25; omega
      have e343b : s2 343 m = (w.2.1 : Int) := by rw [← e343]; have := f1 343 m; have := f2 343 m; omega
      -- the wrong way on: a minute is written, nothing else is done
      have hwrong : ∀ s3 : Mem, FrM1 m σ s3 → s3 328 28 = (eEn z n w).1 → (eEn z n w).1 ≠ -1 → R32 (s3 328 28) → s3 328 25 = (m : Int) → s3 343 m = (w.2.1 : Int) → wp (rdI s3 343 12 (s3 328 25) (fun x6 => bnd (fX7_at fu (s3 328 25) (x6 - 1) s3) (fun x7 s13 => wrI s13 345 96 x7 v2 (fun s14 => bnd (fX7_readStop fu s14) (fun _ s15 => if w32 (s15 328 28) ≠ w32 (-1) then K2 s15 else bnd (fX7_sees fu s15) (fun x8 s16 => if w32 x8 ≠ w32 45 then K2 s16 else rdI s16 343 12 (s16 328 25) (fun x9 => if w32 x9 < w32 8 then fX7_readLine_L121 fu e4 K1 K2 fl s16 else K2 s16))))))) Q := by
        intro s3 hf3 hw3 hne hR3 h253 h3433
        rw [h253]
        refine rI m rfl hm ?_
        rw [h3433]
        unfold fX7_at
        refine wp_bs (wI (8 * m + (w.2.1 - 1)) (by omega) (by omega) ?_)
        refine wp_bnd _ (r_stopW (by rw [ms_k (by omega), hw3]; exact hne) (by rw [ms_k (by omega)]; exact hR3)) ?_
        rintro _ s4 rfl
        rw [ms_k (show (328 : Nat) ≠ 345 by omega)]
        refine iNe (fun _ => ?_) (fun g => absurd (hw3.symm.trans g) hne) hR3
        refine hK2 _ hne (by rw [ms_k (by omega)]; exact hw3) (by rw [ms_k (by omega)]; exact h253) ⟨w.2.1, by omega, by rw [ms_k (by omega)]; exact h3433⟩ (fun k j => ?_)
        by_cases e : k = 345 ∧ j = 8 * m + (w.2.1 - 1)
        · right; right; right; left; omega
        · rw [mset_eq, if_neg e]; exact hf3 k j
      rcases g2 with ⟨g2, g2', bb, hbb, g2t⟩ | ⟨g2, g2', rfl, g2''⟩
      · have er : erW z w = rNum z 99 (w.1 + 1) := by unfold erW; rw [if_neg (fun q => q g1), if_pos g2]
        have ee : eEn z n w = (erW z w, w) := if_pos (by rw [er]; exact g2)
        have hrr := rNum_r (most := 99) (a := w.1 + 1) h (by omega)
        refine wp_bnd _ (r_expectW (by rw [g2']; exact g2) (by rw [g2']; omega)) ?_
        rintro _ s3 rfl
        exact hwrong s2 ((hfr.trans f1.m1).trans f2.m1) (by rw [g2', ee]; exact er.symm) (by rw [ee]; show erW z w ≠ -1; rw [er]; exact g2) (by rw [g2']; omega) h25b e343b
      · have hn := rNum_ok h g2
        have hna := nA_is h hn.1
        have hT2 := f2.tx hT1 g2''
        refine wp_bnd _ (r_expect h hT2 (by omega) (by omega) g2') ?_
        intro _ s3 ⟨g3, f3⟩
        have h25c : s3 328 25 = (m : Int) := by rw [← h25b]; have := f3 328 25; omega
        have e343c : s3 343 m = (w.2.1 : Int) := by rw [← e343b]; have := f3 343 m; omega
        have hfr3 : FrM1 m σ s3 := ((hfr.trans f1.m1).trans f2.m1).trans f3.m1
        rcases g3 with ⟨g3, g3', g3t⟩ | ⟨g3, g3', g3''⟩
        · have er : erW z w = (nA z (w.1 + 1) : Int) := by unfold erW; rw [if_neg (fun q => q g1), if_neg (fun q => q g2), if_pos g3]
          have ee : eEn z n w = (erW z w, w) := if_pos (by omega)
          exact hwrong s3 hfr3 (by rw [g3', ee]; exact er.symm) (by rw [ee]; show erW z w ≠ -1; omega) (by rw [g3']; omega) h25c e343c
        · have hal3 := h.lt (i := nA z (w.1 + 1)) (by omega)
          have hT3 := f3.tx hT2 g3''
          have er : erW z w = stW z (nA z (w.1 + 1) + 1) w.2.1 w.2.2.1 := by unfold erW; rw [if_neg (fun q => q g1), if_neg (fun q => q g2), if_neg (fun q => q g3)]
          have hsr := stW_r (z := z) (a := nA z (w.1 + 1) + 1) (c := w.2.1) (st := w.2.2.1) (by omega)
          rw [h25c]
          refine rI m rfl hm ?_
          rw [e343c]
          unfold fX7_at
          refine wp_bs (wI (8 * m + (w.2.1 - 1)) (by omega) (by omega) ?_)
          have hfr4 : FrM1 m σ (mset s3 345 (8 * m + (w.2.1 - 1)) (nV z (w.1 + 1))) := fun k j => by
            by_cases e : k = 345 ∧ j = 8 * m + (w.2.1 - 1)
            · right; right; right; left; omega
            · rw [mset_eq, if_neg e]; exact hfr3 k j
          have hT4 : TxR z N (nA z (w.1 + 1) + 1) (mset s3 345 (8 * m + (w.2.1 - 1)) (nV z (w.1 + 1))) := ⟨by rw [ms_k (by omega)]; exact hT3.1, fun i hi => by rw [ms_k (by omega)]; exact hT3.2.1 i hi, by rw [ms_k (by omega)]; exact hT3.2.2⟩
          have h284 : mset s3 345 (8 * m + (w.2.1 - 1)) (nV z (w.1 + 1)) 328 28 = -1 := by rw [ms_k (by omega)]; exact g3'
          have h254 : mset s3 345 (8 * m + (w.2.1 - 1)) (nV z (w.1 + 1)) 328 25 = (m : Int) := by rw [ms_k (by omega)]; exact h25c
          have h343q : mset s3 345 (8 * m + (w.2.1 - 1)) (nV z (w.1 + 1)) 343 m = (w.2.1 : Int) := by rw [ms_k (by omega)]; exact e343c
          have hL4 : LnR m (f, w.2.1, w.2.2.1, upf w.2.2.2 (w.2.1 - 1) (nV z (w.1 + 1))) (mset s3 345 (8 * m + (w.2.1 - 1)) (nV z (w.1 + 1))) := by
            refine ⟨?_, h343q, fun p hp => ?_, fun p hp => ?_⟩
            · have hL1 : s 342 m = f := hL.1
              show _ = f
              rw [ms_k (by omega), ← hL1]; have := f1 342 m; have := f2 342 m; have := f3 342 m; omega
            · have hp : p < w.2.1 := hp
              have hLp : s 344 (8 * m + p) = w.2.2.1 p := hL.2.2.1 p hp
              show _ = w.2.2.1 p
              rw [ms_k (by omega), ← hLp]; have := f1 344 (8 * m + p); have := f2 344 (8 * m + p); have := f3 344 (8 * m + p); omega
            · have hp : p + 1 < w.2.1 := hp
              have hLp : s 345 (8 * m + p) = w.2.2.2 p := hL.2.2.2 p hp
              show _ = upf w.2.2.2 (w.2.1 - 1) (nV z (w.1 + 1)) p
              unfold upf
              rw [if_neg (by omega), ms_j (by omega), ← hLp]
              have := f1 345 (8 * m + p); have := f2 345 (8 * m + p); have := f3 345 (8 * m + p); omega
          have h345n : mset s3 345 (8 * m + (w.2.1 - 1)) (nV z (w.1 + 1)) 345 (8 * m + (w.2.1 - 1)) = nV z (w.1 + 1) := ms_eq _ _ _ _
          generalize mset s3 345 (8 * m + (w.2.1 - 1)) (nV z (w.1 + 1)) = s4 at *
          refine wp_bnd _ (r_stop h hfu hT4 (by omega) h284 hm h254 hL4 (by omega) hw.2.1) ?_
          intro _ s5 ⟨g5, f5w, f5⟩
          have hfr5 : FrM1 m σ s5 := fun k j => by
            have a := hfr4 k j
            have b := f5 k j
            omega
          have h255 : s5 328 25 = (m : Int) := by rw [← h254]; have := f5 328 25; omega
          rcases g5 with ⟨g5, g5', g5t⟩ | ⟨g5, g5', g5t, g5c, g5s⟩
          · have ee : eEn z n w = (erW z w, w) := if_pos (by rw [er]; exact g5)
            have hfw := f5w g5
            rw [g5']
            refine iNe (fun _ => ?_) (fun g => absurd g g5)
            refine hK2 s5 (by rw [ee]; show erW z w ≠ -1; rw [er]; exact g5) (by rw [g5', ee]; exact er.symm) h255 ⟨w.2.1, by omega, ?_⟩ hfr5
            rw [← h343q]; have := hfw 343 m; omega
          · have ee : eEn z n w = wyL z n (nxW z w) := if_neg (by rw [er]; exact fun q => q g5)
            have herw : erW z w = -1 := by rw [er]; exact g5
            have hx := nxW_ok h hw herw
            have hLn : LnR m (lnO f (nxW z w)) s5 := by
              refine ⟨?_, g5c, fun p hp => ?_, fun p hp => ?_⟩
              · show s5 342 m = f
                have hL41 : s4 342 m = f := hL4.1
                rw [← hL41]; have := f5 342 m; omega
              · have hp : p < w.2.1 + 1 := hp
                show _ = upf w.2.2.1 w.2.1 (z (nA z (w.1 + 1) + 1) - 48) p
                unfold upf
                by_cases e : p = w.2.1
                · rw [if_pos e, e]; exact g5s
                · have hLp : s4 344 (8 * m + p) = w.2.2.1 p := hL4.2.2.1 p (by show p < w.2.1; omega)
                  rw [if_neg e, ← hLp]; have := f5 344 (8 * m + p); omega
              · have hp : p + 1 < w.2.1 + 1 := hp
                show _ = upf w.2.2.2 (w.2.1 - 1) (nV z (w.1 + 1)) p
                by_cases e : p = w.2.1 - 1
                · unfold upf
                  rw [if_pos e, e, ← h345n]; have := f5 345 (8 * m + (w.2.1 - 1)); omega
                · have hLp : s4 345 (8 * m + p) = upf w.2.2.2 (w.2.1 - 1) (nV z (w.1 + 1)) p := hL4.2.2.2 p (by show p + 1 < w.2.1; omega)
                  rw [← hLp]; have := f5 345 (8 * m + p); omega
            have hT5 : TxR z N (nxW z w).1 s5 := ⟨by rw [← hT4.1]; have := f5 328 26; omega, fun i hi => by rw [← hT4.2.1 i hi]; have := f5 340 i; rw [show s5 340 i = s4 340 i by omega], g5t⟩
            rw [g5']
            refine iNe (fun g => absurd rfl g) (fun _ => ?_)
            have hbz := h.b (nxW z w).1
            refine wp_bnd _ (r_sees h hT5 (by omega)) ?_
            rintro y s6 ⟨rfl, rfl⟩
            have hstop : wyL z n (nxW z w) = (-1, nxW z w) → wp (K2 s5) Q := fun e => hK3 s5 (by rw [ee, e]) g5' (by rw [ee, e]; exact g5t) h255 (by rw [ee, e]; exact hLn) hfr5
            refine iNe (fun g => hstop ?_) (fun g => ?_)
            · cases n with
              | zero => rfl
              | succ n => exact if_pos g
            · rw [h255]
              refine rI m rfl hm ?_
              rw [g5c]
              refine iLt (fun g8 => ?_) (fun g8 => hstop ?_)
              · cases n with
                | zero => omega
                | succ n =>
                  have e2 : wyL z (n + 1) (nxW z w) = eEn z n (nxW z w) := by
                    show (if z (nxW z w).1 ≠ 45 then ((-1 : Int), nxW z w) else if erW z (nxW z w) ≠ -1 then (erW z (nxW z w), nxW z w) else wyL z n (nxW z (nxW z w))) = _
                    rw [if_neg (fun q => q g)]
                    rfl
                  rw [ee, e2] at hK1 hK2 hK3
                  exact ih n (nxW z w) s5 (by omega) hx.1 hx.2 (by show w.2.1 + 1 + n = 7; omega) hT5 g5' h255 hLn hfr5 hK1 hK2 hK3
              · cases n with
                | zero => rfl
                | succ n => omega
end READR2
