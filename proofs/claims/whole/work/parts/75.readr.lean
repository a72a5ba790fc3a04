/-! ===== the reference reads lines ===== -/
def TxR (z : Nat → Int) (N a : Nat) (σ : Mem) : Prop := σ 328 26 = (N : Int) ∧ (∀ i, i < N → and32 (σ 340 i) 255 = z i) ∧ σ 328 27 = (a : Int)
def FR2 (σ σ' : Mem) : Prop := ∀ k j, (k = 328 ∧ (j = 27 ∨ j = 28)) ∨ σ' k j = σ k j
def FrR (σ σ' : Mem) : Prop := ∀ k j, (k = 328 ∧ 25 ≤ j ∧ j ≤ 28 ∧ j ≠ 26) ∨ (342 ≤ k ∧ k ≤ 345) ∨ σ' k j = σ k j
def LnR (m : Nat) (x : zLn) (σ : Mem) : Prop := σ 342 m = x.1 ∧ σ 343 m = (x.2.1 : Int) ∧ (∀ p, p < x.2.1 → σ 344 (8 * m + p) = x.2.2.1 p) ∧ (∀ p, p + 1 < x.2.1 → σ 345 (8 * m + p) = x.2.2.2 p)
def RdR (LS : Nat → zLn) (m : Nat) (σ : Mem) : Prop := σ 328 25 = (m : Int) ∧ m ≤ 12 ∧ ∀ k, k < m → LnR k (LS k) σ
section READR
variable {V V' U σ σ' σ'' X W : Mem} {z : Nat → Int} {N a m room c Q fu k j p i t n : Nat} {v x f ch : Int} {w : zWS} {st mi st' mi' : Nat → Int} {LS : Nat → zLn}
theorem FR2.refl (σ : Mem) : FR2 σ σ := fun _ _ => Or.inr rfl
theorem FR2.trans (h : FR2 σ σ') (g : FR2 σ' σ'') : FR2 σ σ'' := fun k j => by have := h k j; have := g k j; omega
theorem FR2.tx {b : Nat} (h : FR2 σ σ') (hT : TxR z N a σ) (e : σ' 328 27 = (b : Int)) : TxR z N b σ' := ⟨by rw [← hT.1]; have := h 328 26; omega, fun i hi => by rw [← hT.2.1 i hi]; have := h 340 i; rw [this.resolve_left (by omega)], e⟩
theorem r_sees (h : TxZ z N) (hT : TxR z N a σ) (ha : a ≤ 402) : wp (fX7_sees fu σ) (fun r σ' => r = z a ∧ σ = σ') := by
  have hN := h.1
  unfold fX7_sees
  rw [hT.1, hT.2.2]
  refine wp_jn (iLe (fun g => wp_some ⟨(h.2.2 a (by omega)).symm, rfl⟩) (fun g => rI a rfl (by omega) ?_))
  exact wp_some ⟨hT.2.1 a (by omega), rfl⟩
theorem r_fault (hw : σ 328 28 = -1) : wp (fX7_fault fu v σ) (fun _ σ' => σ' 328 28 = v ∧ ∀ k j, (k = 328 ∧ j = 28) ∨ σ' k j = σ k j) := by
  unfold fX7_fault
  rw [hw]
  refine wp_jn (iNe (fun g => absurd rfl g) (fun _ => wp_stf (wp_some ⟨ms_eq _ _ _ _, fun k j => ?_⟩)))
  by_cases e : k = 328 ∧ j = 28
  · exact Or.inl e
  · rw [mset_eq, if_neg e]; exact Or.inr rfl
theorem r_faultW (hw : σ 328 28 ≠ -1) (hb : R32 (σ 328 28)) : wp (fX7_fault fu v σ) (fun _ σ' => σ = σ') := by
  unfold fX7_fault
  exact wp_jn (iNe (fun _ => wp_some rfl) (fun g => absurd g hw))
theorem r_number {most : Int} (h : TxZ z N) (hfu : 1000 < fu) (hT : TxR z N a σ) (ha : a ≤ N) (hm : 1 ≤ most ∧ most ≤ 99) (hw : σ 328 28 = -1) : wp (fX7_readNumber fu most σ) (fun r σ' => ((rNum z most a ≠ -1 ∧ σ' 328 28 = rNum z most a ∧ ∃ b : Nat, b ≤ N ∧ σ' 328 27 = (b : Int)) ∨ (rNum z most a = -1 ∧ σ' 328 28 = -1 ∧ r = nV z a ∧ σ' 328 27 = (nA z a : Int))) ∧ FR2 σ σ') := by
  have hN := h.1
  have hb := h.b a
  have hb1 := h.b (a + 1)
  unfold fX7_readNumber
  obtain ⟨f1, rfl⟩ : ∃ f1, fu = f1 + 3 := ⟨fu - 3, by omega⟩
  rw [fX7_readNumber_L4]
  refine iLe (fun h => by omega) (fun _ => ?_)
  refine wp_bnd _ (r_sees h hT (by omega)) ?_
  rintro y s' ⟨rfl, rfl⟩
  rw [w32_sm (x := z a) (by omega) (by omega)]
  refine wp_bnd _ (r_in _ (by omega) (by omega) (by omega)) ?_
  rintro y s' ⟨h0, h1, rfl⟩
  refine iEq0 (fun g => ?_) (fun g => ?_)
  · have hnd : ¬ dig (z a) := fun q => by have := h1.mpr q; omega
    have er : rNum z most a = (a : Int) := by unfold rNum; rw [if_pos hnd]
    refine wp_jn (iNe0 (fun g => absurd rfl g) (fun _ => ?_))
    rw [hT.2.2]
    refine wp_bnd _ (r_fault hw) ?_
    intro _ s2 ⟨w1, w2⟩
    refine wp_some ⟨Or.inl ⟨by omega, by rw [w1, er], a, ha, ?_⟩, fun k j => by have := w2 k j; omega⟩
    rw [← hT.2.2]; have := w2 328 27; omega
  · have hd : dig (z a) := h1.mp (by omega)
    have hna := nA_is h hd
    have hal := h.lt (i := a) (by omega)
    have hend : ∀ (q : Int) (s9 : Mem), q ≠ 0 → R32 q → s9 328 27 = (nA z a : Int) → FR2 σ s9 → s9 328 28 = -1 → wp (jn (fun s => some (nV z a, s)) (fun (j1 : Mem → PR) => if w32 q ≠ 0 then bnd (fX7_in (f1 + 3) (w32 (nV z a)) 1 (w32 most) s9) (fun x11 s10 => if w32 x11 ≠ 0 then j1 s10 else bnd (fX7_fault (f1 + 3) ((s10 328 27) - 1) s10) (fun _ s11 => j1 s11)) else bnd (fX7_fault (f1 + 3) (s9 328 27) s9) (fun _ s12 => j1 s12))) (fun r σ' => ((rNum z most a ≠ -1 ∧ σ' 328 28 = rNum z most a ∧ ∃ b : Nat, b ≤ N ∧ σ' 328 27 = (b : Int)) ∨ (rNum z most a = -1 ∧ σ' 328 28 = -1 ∧ r = nV z a ∧ σ' 328 27 = (nA z a : Int))) ∧ FR2 σ σ') := by
      intro q s9 hq hq2 e27 hfr hw9
      refine wp_jn (iNe0 (fun _ => ?_) (fun g => absurd g hq) hq2)
      rw [w32_sm (x := nV z a) (by omega) (by omega), w32_sm (x := most) (by omega) (by omega)]
      refine wp_bnd _ (r_in _ (by omega) (by omega) (by omega)) ?_
      rintro y s' ⟨y0, y1, rfl⟩
      refine iNe0 (fun g => wp_some ⟨Or.inr ⟨?_, hw9, rfl, e27⟩, hfr⟩) (fun g => ?_)
      · unfold rNum; rw [if_neg (fun q => q hd), if_pos (y1.mp (by omega))]
      · have er : rNum z most a = (nA z a : Int) - 1 := by unfold rNum; rw [if_neg (fun q => q hd), if_neg (fun q => by have := y1.mpr q; omega)]
        rw [e27]
        refine wp_bnd _ (r_fault hw9) ?_
        intro _ s2 ⟨w1, w2⟩
        refine wp_some ⟨Or.inl ⟨by omega, by rw [w1, er], nA z a, hna.2.2.1, ?_⟩, fun k j => by have := w2 k j; have := hfr k j; omega⟩
        rw [← e27]; have := w2 328 27; omega
    refine wp_bnd _ (r_sees h hT (by omega)) ?_
    rintro y s' ⟨rfl, rfl⟩
    refine wp_lt (wp_stf ?_)
    rw [hT.2.2]
    have hfr3 : FR2 σ (mset σ 328 27 ((a : Int) + 1)) := fun k j => by
      by_cases e : k = 328 ∧ j = 27
      · left; omega
      · rw [mset_eq, if_neg e]; exact Or.inr rfl
    have hT3 : TxR z N (a + 1) (mset σ 328 27 ((a : Int) + 1)) := hfr3.tx hT (by rw [ms_eq]; omega)
    have hw3 : mset σ 328 27 ((a : Int) + 1) 328 28 = -1 := by rw [ms_j (by omega)]; exact hw
    generalize mset σ 328 27 ((a : Int) + 1) = s3 at *
    rw [fX7_readNumber_L4]
    refine iLe (fun h => by omega) (fun _ => ?_)
    refine wp_bnd _ (r_sees h hT3 (by omega)) ?_
    rintro y s' ⟨rfl, rfl⟩
    rw [w32_sm (x := z (a + 1)) (by omega) (by omega)]
    refine wp_bnd _ (r_in _ (by omega) (by omega) (by omega)) ?_
    rintro y s' ⟨q0, q1, rfl⟩
    refine iEq0 (fun g2 => ?_) (fun g2 => ?_)
    · have hnd : ¬ dig (z (a + 1)) := fun q => by have := q1.mpr q; omega
      have ev : nV z a = 10 * 0 + z a - 48 := by unfold nV; rw [if_neg hnd]; omega
      have ea : nA z a = a + 1 := by unfold nA; rw [if_neg hnd]
      rw [← ev]
      exact hend _ s3 (by omega) (by omega) (by rw [hT3.2.2, ea]) hfr3 hw3
    · have hd1 : dig (z (a + 1)) := q1.mp (by omega)
      have hal1 := h.lt (i := a + 1) (by omega)
      have ev : nV z a = 10 * (10 * 0 + z a - 48) + z (a + 1) - 48 := by unfold nV; rw [if_pos hd1]; omega
      have ea : nA z a = a + 2 := by unfold nA; rw [if_pos hd1]
      refine wp_bnd _ (r_sees h hT3 (by omega)) ?_
      rintro y s' ⟨rfl, rfl⟩
      refine wp_lt (wp_stf ?_)
      rw [hT3.2.2]
      rw [fX7_readNumber_L4]
      refine iLe (fun _ => ?_) (fun h => by omega)
      rw [← ev]
      refine hend _ _ (by omega) (by omega) (by rw [ms_eq, ea]; omega) (fun k j => ?_) (by rw [ms_j (by omega)]; exact hw3)
      by_cases e : k = 328 ∧ j = 27
      · left; omega
      · rw [mset_eq, if_neg e]; exact hfr3 k j
theorem r_expect (h : TxZ z N) (hT : TxR z N a σ) (ha : a ≤ N) (hc : 0 ≤ ch ∧ ch ≤ 255) (hw : σ 328 28 = -1) : wp (fX7_expect fu ch σ) (fun _ σ' => ((z a ≠ ch ∧ σ' 328 28 = (a : Int) ∧ σ' 328 27 = (a : Int)) ∨ (z a = ch ∧ σ' 328 28 = -1 ∧ σ' 328 27 = ((a + 1 : Nat) : Int))) ∧ FR2 σ σ') := by
  have hN := h.1
  have hb := h.b a
  unfold fX7_expect
  rw [hw]
  refine iEq (fun _ => ?_) (fun g => absurd rfl g)
  refine wp_bnd _ (r_sees h hT (by omega)) ?_
  rintro y s' ⟨rfl, rfl⟩
  rw [hT.2.2]
  refine wp_jn (iNe (fun g => ?_) (fun g => wp_stf (wp_some ⟨Or.inr ⟨g, by rw [ms_j (by omega)]; exact hw, by rw [ms_eq]; omega⟩, fun k j => ?_⟩)))
  · refine wp_bnd _ (r_fault hw) ?_
    intro _ s2 ⟨w1, w2⟩
    exact wp_some ⟨Or.inl ⟨g, w1, by rw [← hT.2.2]; have := w2 328 27; omega⟩, fun k j => by have := w2 k j; omega⟩
  · by_cases e : k = 328 ∧ j = 27
    · left; omega
    · rw [mset_eq, if_neg e]; exact Or.inr rfl
theorem r_expectW (hw : σ 328 28 ≠ -1) (hb : R32 (σ 328 28)) : wp (fX7_expect fu ch σ) (fun _ σ' => σ = σ') := by
  unfold fX7_expect
  exact iEq (fun g => absurd g hw) (fun _ => wp_some rfl)
theorem r_stopW (hw : σ 328 28 ≠ -1) (hb : R32 (σ 328 28)) : wp (fX7_readStop fu σ) (fun _ σ' => σ = σ') := by
  unfold fX7_readStop
  exact iEq (fun g => absurd g hw) (fun _ => wp_some rfl)
theorem r_stop (h : TxZ z N) (hfu : 1000 < fu) (hT : TxR z N a σ) (ha : a ≤ N) (hw : σ 328 28 = -1) (hm : m < 12) (h25 : σ 328 25 = (m : Int)) (hL : LnR m (f, c, st, mi) σ) (hc : c < 8) (hst : ∀ p, p < c → 0 ≤ st p ∧ st p ≤ 9) : wp (fX7_readStop fu σ) (fun _ σ' => ((stW z a c st ≠ -1 ∧ σ' 328 28 = stW z a c st ∧ σ' 328 27 = (a : Int)) ∨ (stW z a c st = -1 ∧ σ' 328 28 = -1 ∧ σ' 328 27 = ((a + 1 : Nat) : Int) ∧ σ' 343 m = ((c + 1 : Nat) : Int) ∧ σ' 344 (8 * m + c) = z a - 48)) ∧ (stW z a c st ≠ -1 → FR2 σ σ') ∧ ∀ k j, (k = 328 ∧ (j = 27 ∨ j = 28)) ∨ (k = 343 ∧ j = m) ∨ (k = 344 ∧ j = 8 * m + c) ∨ σ' k j = σ k j) := by
  have hN := h.1
  have hb := h.b a
  have e343 : σ 343 m = (c : Int) := hL.2.1
  have e344 : ∀ p, p < c → σ 344 (8 * m + p) = st p := hL.2.2.1
  unfold fX7_readStop
  rw [hw]
  refine iEq (fun _ => ?_) (fun g => absurd rfl g)
  refine wp_bnd _ (r_sees h hT (by omega)) ?_
  rintro y s' ⟨rfl, rfl⟩
  refine wp_lt ?_
  refine wp_bnd _ (r_isStop _ _ (by omega)) ?_
  rintro y s' ⟨h0, h1, rfl⟩
  have hK : ∀ y : Int, (y = 0 ∨ y = 1) → (y = 1 ↔ stW z a c st = -1) → wp (if w32 y ≠ 0 then stf σ 328 27 ((σ 328 27) + 1) (fun s10 => rdI s10 343 12 (s10 328 25) (fun x12 => bnd (fX7_at fu (s10 328 25) x12 s10) (fun x13 s11 => wrI s11 344 96 x13 (z a - 48) (fun s12 => rdI s12 343 12 (s12 328 25) (fun x14 => wrI s12 343 12 (s12 328 25) (x14 + 1) (fun s13 => some (0, s13))))))) else bnd (fX7_fault fu (σ 328 27) σ) (fun _ s14 => some (0, s14))) (fun _ σ' => ((stW z a c st ≠ -1 ∧ σ' 328 28 = stW z a c st ∧ σ' 328 27 = (a : Int)) ∨ (stW z a c st = -1 ∧ σ' 328 28 = -1 ∧ σ' 328 27 = ((a + 1 : Nat) : Int) ∧ σ' 343 m = ((c + 1 : Nat) : Int) ∧ σ' 344 (8 * m + c) = z a - 48)) ∧ (stW z a c st ≠ -1 → FR2 σ σ') ∧ ∀ k j, (k = 328 ∧ (j = 27 ∨ j = 28)) ∨ (k = 343 ∧ j = m) ∨ (k = 344 ∧ j = 8 * m + c) ∨ σ' k j = σ k j) := by
    intro y y0 y1
    rw [hT.2.2]
    refine iNe0 (fun g => ?_) (fun g => ?_)
    · have hs : stW z a c st = -1 := y1.mp (by omega)
      refine wp_stf ?_
      rw [ms_j (by omega), h25]
      refine rI m rfl hm ?_
      rw [ms_k (by omega), e343]
      unfold fX7_at
      refine wp_bs (wI (8 * m + c) (by omega) (by omega) ?_)
      rw [ms_k (by omega), ms_j (by omega), h25]
      refine rI m rfl hm ?_
      rw [ms_k (by omega), ms_k (by omega), e343]
      refine wI m rfl hm (wp_some ⟨Or.inr ⟨hs, ?_, ?_, ?_, ?_⟩, fun q => absurd hs q, fun k j => ?_⟩)
      · rw [ms_k (by omega), ms_k (by omega), ms_j (by omega)]; exact hw
      · rw [ms_k (by omega), ms_k (by omega), ms_eq]; omega
      · rw [ms_eq]; omega
      · rw [ms_k (by omega), ms_eq]
      · by_cases e : (k = 328 ∧ j = 27) ∨ (k = 343 ∧ j = m) ∨ (k = 344 ∧ j = 8 * m + c)
        · omega
        · rw [mset_eq, if_neg (by omega), mset_eq, if_neg (by omega), mset_eq, if_neg (by omega)]; simp
    · have hs : stW z a c st ≠ -1 := fun q => by have := y1.mpr q; omega
      have hs2 : stW z a c st = (a : Int) := by
        unfold stW at hs ⊢
        split
        · rename_i q; rw [if_pos q] at hs; exact absurd rfl hs
        · rfl
      refine wp_bnd _ (r_fault hw) ?_
      intro _ s2 ⟨w1, w2⟩
      exact wp_some ⟨Or.inl ⟨hs, by rw [w1, hs2], by rw [← hT.2.2]; have := w2 328 27; omega⟩, fun _ k j => by have := w2 k j; omega, fun k j => by have := w2 k j; omega⟩
  refine for2 (f := fX7_readStop_L24 fu (z a - 48) _) c (fun i x s => x = (if dig (z a) ∧ hsI st (z a - 48) i = 0 then 1 else 0) ∧ σ = s) ?_ ?_ (i := 0) ⟨?_, rfl⟩
  · rintro n i x s hi ⟨rfl, rfl⟩ hrec
    have hs := hst i hi
    rw [fX7_readStop_L24, h25]
    refine rI m rfl hm ?_
    rw [e343]
    refine iLe (fun h => by omega) (fun _ => ?_)
    by_cases g : dig (z a) ∧ hsI st (z a - 48) i = 0
    · rw [if_pos g]
      refine iEq0 (fun h => by omega) (fun _ => ?_)
      unfold fX7_at
      refine wp_bs (rI (8 * m + i) (by omega) (by omega) ?_)
      rw [e344 i hi]
      refine wp_jn (iEq (fun q => hrec _ _ ⟨?_, rfl⟩) (fun q => hrec _ _ ⟨?_, rfl⟩))
      · rw [if_neg]
        intro q2
        have := hsI_found q (i + 1) (by omega)
        omega
      · have e : hsI st (z a - 48) (i + 1) = hsI st (z a - 48) i := if_neg q
        rw [e, if_pos g]
    · rw [if_neg g]
      refine iEq0 (fun _ => hK 0 (Or.inl rfl) ?_) (fun h => absurd rfl h)
      refine ⟨fun q => by omega, fun q => ?_⟩
      exfalso
      unfold stW at q
      by_cases q2 : dig (z a) ∧ hsI st (z a - 48) c = 0
      · exact g ⟨q2.1, hsI_all (fun p hp => hsI_none q2.2 (by omega))⟩
      · rw [if_neg q2] at q; omega
  · rintro n x s ⟨rfl, rfl⟩
    rw [fX7_readStop_L24, h25]
    refine rI m rfl hm ?_
    rw [e343]
    refine iLe (fun _ => hK _ ?_ ?_) (fun h => by omega)
    · split <;> simp
    · unfold stW
      by_cases g : dig (z a) ∧ hsI st (z a - 48) c = 0
      · rw [if_pos g, if_pos g]; simp
      · rw [if_neg g, if_neg g]; omega
  · by_cases g : dig (z a)
    · rw [if_pos ⟨g, rfl⟩]; exact h1.mpr (by omega)
    · rw [if_neg (fun q => g q.1)]
      rcases h0 with e | e
      · exact e
      · exact absurd (by have := h1.mp e; omega) g
end READR
