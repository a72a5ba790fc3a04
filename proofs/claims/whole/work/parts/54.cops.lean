/-! ===== calls that ask of costs and sets ===== -/
def tlm (L : List (Int × Nat)) : Nat → Int
  | 0 => 0
  | k + 1 => or32 (tlm L k) (shl32 1 ((gtL L k).2 : Int))
def inL (L : List (Int × Nat)) (l : Nat) : Nat → Int
  | 0 => 0
  | k + 1 => if (gtL L k).2 = l then 1 else inL L l k
theorem inL_01 {L : List (Int × Nat)} {l : Nat} : ∀ k, inL L l k = 0 ∨ inL L l k = 1 := by
  intro k
  induction k with
  | zero => exact Or.inl rfl
  | succ k ih => simp only [inL]; split; exact Or.inr rfl; exact ih
theorem inL_found {L : List (Int × Nat)} {l k : Nat} (h : (gtL L k).2 = l) : ∀ n, k < n → inL L l n = 1 := by
  intro n
  induction n with
  | zero => intro h; omega
  | succ n ih =>
    intro hk
    simp only [inL]
    split
    · rfl
    · rename_i g
      refine ih ?_
      rcases Nat.lt_or_ge k n with a | a
      · exact a
      · exact absurd (by rw [show n = k by omega]; exact h) g
theorem and1_bit (x : Int) {l : Nat} (hl : l < 12) : and32 (shr32 x (l : Int)) 1 = if (Int32.ofInt x).toBitVec.getLsbD l = true then 1 else 0 := by
  unfold and32 shr32
  rw [Int32.ofInt_toInt]
  have hs : ((Int32.ofInt (l : Int) &&& 31).toBitVec.smod 32).toNat = l := (by decide +kernel : ∀ l : Nat, l < 12 → ((Int32.ofInt (l : Int) &&& 31).toBitVec.smod 32).toNat = l) l hl
  have e1 : (Int32.ofInt 1) = 1 := by decide +kernel
  rw [e1]
  show ((((Int32.ofInt x).toBitVec.sshiftRight' ((Int32.ofInt (l : Int) &&& 31).toBitVec.smod 32)) &&& 1#32).toInt : Int) = _
  rw [BitVec.sshiftRight_eq', hs, BitVec.and_one_eq_setWidth_ofBool_getLsbD, BitVec.getLsbD_sshiftRight, if_pos (show l + 0 < 32 by omega), Nat.add_zero]
  cases (Int32.ofInt x).toBitVec.getLsbD l <;> decide +kernel
theorem or_bv (a b : Int) : (Int32.ofInt (or32 a b)).toBitVec = (Int32.ofInt a).toBitVec ||| (Int32.ofInt b).toBitVec := by
  unfold or32; rw [Int32.ofInt_toInt]; rfl
theorem sh1_bv {i : Nat} (h : i < 12) : (Int32.ofInt (shl32 1 (i : Int))).toBitVec = BitVec.twoPow 32 i := (by decide +kernel : ∀ i : Nat, i < 12 → (Int32.ofInt (shl32 1 (i : Int))).toBitVec = BitVec.twoPow 32 i) i h
theorem tlm_bit {L : List (Int × Nat)} {l : Nat} (hl : l < 12) : ∀ k, (∀ i, i < k → (gtL L i).2 < 12) → and32 (shr32 (tlm L k) (l : Int)) 1 = inL L l k := by
  have key : ∀ k, (∀ i, i < k → (gtL L i).2 < 12) → ((Int32.ofInt (tlm L k)).toBitVec.getLsbD l = true ↔ inL L l k = 1) := by
    intro k
    induction k with
    | zero =>
      intro _
      have e : (Int32.ofInt 0).toBitVec = 0#32 := by decide +kernel
      have e2 : (Int32.ofInt (tlm L 0)).toBitVec = 0#32 := e
      rw [e2]
      simp [inL]
    | succ k ih =>
      intro h
      have ih := ih (fun i hi => h i (by omega))
      have hk := h k (by omega)
      have e : tlm L (k + 1) = or32 (tlm L k) (shl32 1 ((gtL L k).2 : Int)) := rfl
      have e2 : inL L l (k + 1) = if (gtL L k).2 = l then 1 else inL L l k := rfl
      rw [e, or_bv, sh1_bv hk, BitVec.getLsbD_or, BitVec.getLsbD_twoPow, e2, Bool.or_eq_true, ih]
      by_cases g : (gtL L k).2 = l
      · rw [if_pos g]
        refine ⟨fun _ => rfl, fun _ => Or.inr ?_⟩
        simp [g]
        omega
      · rw [if_neg g]
        refine ⟨fun q => ?_, fun q => Or.inl q⟩
        rcases q with q | q
        · exact q
        · simp [g] at q
  intro k hk
  rw [and1_bit _ hl]
  have h1 := key k hk
  have h2 := inL_01 (L := L) (l := l) k
  by_cases g : (Int32.ofInt (tlm L k)).toBitVec.getLsbD l = true
  · rw [if_pos g]; exact (h1.mp g).symm
  · rw [if_neg g]
    rcases h2 with e | e
    · exact e.symm
    · exact absurd (h1.mpr e) g
theorem gre_le {fr : Nat → Int} (hf : ∀ l, 1 ≤ fr l) : ∀ (L : List (Int × Nat)) (N F : Int), 0 ≤ N → 0 ≤ F → Srt L → (∀ y ∈ L, 0 ≤ y.1) → ∀ y ∈ (gre fr N F L).1, y.1 ≤ (gre fr N F L).2.1 / (gre fr N F L).2.2 := by
  intro L
  induction L with
  | nil => intro N F _ _ _ _ y hy; simp [gre] at hy
  | cons x t ih =>
    intro N F hN hF hS h0 y hy
    have hfx := hf x.2
    have hx0 := h0 x List.mem_cons_self
    by_cases hc : F = 0 ∨ x.1 < N / F
    · have hE : gre fr N F (x :: t) = (x :: (gre fr (N + fr x.2 * x.1) (F + fr x.2) t).1, (gre fr (N + fr x.2 * x.1) (F + fr x.2) t).2) := by
        conv => lhs; unfold gre
        rw [if_pos hc]
      have hxF : x.1 * F ≤ N := by
        rcases hc with e | e
        · rw [e]; omega
        · by_cases e2 : F = 0
          · rw [e2]; omega
          · exact (Int.le_ediv_iff_mul_le (by omega)).mp (Int.le_of_lt e)
      rw [hE] at hy ⊢
      have hp : 0 ≤ fr x.2 * x.1 := Int.mul_nonneg (by omega) hx0
      rcases List.mem_cons.mp hy with e | e
      · subst e
        exact (gre_suf hf t (N + fr y.2 * y.1) (F + fr y.2) y.1 (by omega) hS.2 hS.1 (by rw [Int.mul_add, Int.mul_comm y.1 (fr y.2)]; omega)).2.1
      · exact ih (N + fr x.2 * x.1) (F + fr x.2) (by omega) (by omega) hS.2 (fun y hy => h0 y (List.mem_cons_of_mem _ hy)) y e
    · have hE : gre fr N F (x :: t) = ([], N, F) := by
        conv => lhs; unfold gre
        rw [if_neg hc]
      rw [hE] at hy
      simp at hy
section COPS
variable {V V' σ σ' : Mem} {c : Nat → Int} {t k j l p s fu : Nat} {a b v r : Int}
theorem tk_le (ok : OkN V) (hb : CstOk V c) (hs : s < 10) (hg : s ≠ gl V) (hc : 0 ≤ c s) (hfix : Tv V c s = c s) {i : Nat} (hi : i < (tk V c s).length) : (gtL (tk V c s) i).1 ≤ c s := by
  have hf := fs_pos ok hb hs hg hc hfix
  have h := Tv_grv (c := c) hs hg hf.2
  rw [hfix, if_neg (by omega)] at h
  rw [h]
  exact gre_le (fun l => (ok.fr l).1) _ _ _ ok.W.1 (Int.le_refl _) ofl_srt (fun y hy => (ofl_mem hy).2.2) _ (gtL_mem hi)
theorem tk_ne (ok : OkN V) (hf : 1 ≤ fs V c s) : 0 < (tk V c s).length := by
  rcases Nat.eq_zero_or_pos (tk V c s).length with e | e
  · have := frk_fs (V := V) (c := c) (s := s)
    rw [e] at this
    simp only [frk] at this
    omega
  · exact e
theorem c_pos (ok : OkN V) (hb : CstOk V c) (hs : s < 10) (hg : s ≠ gl V) (hc : 0 ≤ c s) (hfix : Tv V c s = c s) : 100 ≤ c s := by
  have hf := fs_pos ok hb hs hg hc hfix
  have hn := tk_ne ok hf.1
  have h1 := tk_le ok hb hs hg hc hfix hn
  have h2 := tk_line ok (fun s => (hb.1 s).1) hn
  have h3 := ok.tm1 h2.1 h2.2.2.1
  omega
/-- where one alights it costs less -/
theorem lv_less (ok : OkN V) (hb : CstOk V c) (h37 : V 328 37 = -1) (hs : s < 10) (hg : s ≠ gl V) (hc : 0 ≤ c s) (hfix : Tv V c s = c s) {i : Nat} (hi : i < (tk V c s).length) : sp V (gtL (tk V c s) i).2 (lvq V c (gtL (tk V c s) i).2 (plc V (gtL (tk V c s) i).2 s)) < 10 ∧ 0 ≤ c (sp V (gtL (tk V c s) i).2 (lvq V c (gtL (tk V c s) i).2 (plc V (gtL (tk V c s) i).2 s))) ∧ c (sp V (gtL (tk V c s) i).2 (lvq V c (gtL (tk V c s) i).2 (plc V (gtL (tk V c s) i).2 s))) + 100 ≤ c s := by
  have h1 := tk_le ok hb hs hg hc hfix hi
  have h2 := tk_line ok (fun s => (hb.1 s).1) hi
  have h3 := tk_lv ok (fun s => (hb.1 s).1) hi
  have h4 := ok.tm1 h2.1 h2.2.2.1
  have h5 := hb.off ok h37 h2.1 h3.2.1
  have h6 := (ok.st h2.1 h3.2.1).2
  rw [h5] at h3
  omega
theorem cv_posv (ok : OkN V) (hs : s < 10) (hg : s ≠ gl V) (hc : 0 ≤ cv V s) : 100 ≤ cv V s := c_pos ok (cv_ok ok) hs hg hc (cv_fix ok hs)
/-- costs found, by the class -/
theorem c_find (h : OkA t V) (hfu : 1000 < fu) (hC : ClsA V σ) : wp (fX2_findCosts fu σ) (fun _ σ' => CostC V σ' ∧ ClsA V σ' ∧ Hi σ σ' ∧ CP σ σ') :=
  wp_imp (c_findCosts h.1 hfu hC.1 h.2.1) (fun _ _ g => ⟨g.1, hC.mv h.1 g.2, g.2.hi, g.2⟩)
theorem r_lays (h : OkA t V) (hfu : 1000 < fu) (hR : RefA V σ) : wp (fX7_laysCosts fu σ) (fun _ σ' => CostR V σ' ∧ RefA V σ' ∧ Lo σ σ' ∧ RP σ σ') :=
  wp_imp (r_laysCosts h.1 hfu hR.1 (by have := h.2.1; omega)) (fun _ _ g => ⟨g.1, hR.mv g.2, g.2.lo, g.2⟩)
theorem cv_r (ok : OkN V) (s : Nat) : -1 ≤ cv V s ∧ cv V s ≤ 17800000 := cv_b ok s
theorem lo19 {s0 : Mem} (h : Lo s0 σ) (v : Int) : Lo s0 (mset σ 328 19 v) := h.set (by omega)
theorem op_cost (h : OkA t V) (hfu : 1000 < fu) (ha : R32 a) : Op t V (fX6_cost fu a) (fX7_cost fu a) := by
  by_cases hc : 0 ≤ a ∧ a < 10
  · obtain ⟨s, rfl⟩ := Int.eq_ofNat_of_zero_le hc.1
    have hs : s < 10 := by omega
    have hv := cv_b h.1 s
    have hfs := fs_b (c := cv V) (s := s) h.1
    have hlen := tk_len (c := cv V) (s := s) h.1
    by_cases hd : 0 ≤ cv V s
    · refine ⟨cv V s, row2 V (fs V (cv V) s) ((tk V (cv V) s).length : Int), (row2_ok h).up, fun σ hC => ?_, fun σ hR => ?_⟩
      · unfold fX6_cost
        refine wp_bnd _ (c_isStop fu σ ha) ?_
        rintro x s' ⟨h0, h1, rfl⟩
        refine iNe0 (fun _ => ?_) (fun h => by omega)
        refine wp_bnd _ (c_find h hfu hC) ?_
        intro _ s2 ⟨d1, d2, d3, d4⟩
        have e := d1.1 s hs
        refine rS s rfl hs ?_
        rw [e.1]
        refine iNe (fun _ => ?_) (fun h => by omega)
        rw [e.2.1, e.2.2.1, w32_sm (by omega) (by omega), w32_sm (by omega) (by omega)]
        refine wp_bnd _ (c_putTwo fu h.1 d2) ?_
        intro _ s3 ⟨q1, q2, q3⟩
        exact wp_some ⟨by rw [q3 _ _ (by omega) (by omega)]; exact e.1, q1, d3.trans q2⟩
      · unfold fX7_cost
        refine wp_stf ?_
        refine wp_bnd _ (r_isStop fu _ ha) ?_
        rintro x s' ⟨h0, h1, rfl⟩
        refine iNe0 (fun _ => ?_) (fun h => by omega)
        refine wp_bnd _ (r_lays h hfu hR.s20) ?_
        intro _ s2 ⟨d1, d2, d3, d4⟩
        have e := d1.1 s hs
        refine rI s rfl hs ?_
        rw [e.1]
        refine jLe (fun _ => ?_) (fun h => by omega)
        refine wp_stf ?_
        refine rI s rfl hs ?_
        rw [ms_k (by omega), e.2.2.1, w32_sm (by omega) (by omega)]
        refine wp_bnd _ (r_tell fu (by rw [emp_19]; omega) (r_emp d2)) ?_
        intro _ s3 ⟨q1, q2, q3⟩
        refine rI s rfl hs ?_
        rw [q3 _ _ (by omega) (by omega), ms_k (by omega), e.2.1, w32_sm (by omega) (by omega)]
        refine wp_bnd _ (r_tell fu (by rw [psh_19, emp_19]; omega) q1) ?_
        intro _ s4 ⟨w1, w2, w3⟩
        refine rI s rfl hs ?_
        rw [w3 _ _ (by omega) (by omega), q3 _ _ (by omega) (by omega), ms_k (by omega)]
        exact wp_some ⟨e.1, w1, (((lo20 σ 0).trans (lo19 d3 0)).trans q2).trans w2⟩
    · refine op_same h (-2) (fun σ hC => ?_) (fun σ hR => ?_)
      · unfold fX6_cost
        refine wp_bnd _ (c_isStop fu σ ha) ?_
        rintro x s' ⟨h0, h1, rfl⟩
        refine iNe0 (fun _ => ?_) (fun h => by omega)
        refine wp_bnd _ (c_find h hfu hC) ?_
        intro _ s2 ⟨d1, d2, d3, d4⟩
        refine rS s rfl hs ?_
        rw [(d1.1 s hs).1]
        exact iNe (fun _ => by omega) (fun h => wp_some ⟨rfl, d4⟩)
      · unfold fX7_cost
        refine wp_stf ?_
        refine wp_bnd _ (r_isStop fu _ ha) ?_
        rintro x s' ⟨h0, h1, rfl⟩
        refine iNe0 (fun _ => ?_) (fun h => by omega)
        refine wp_bnd _ (r_lays h hfu hR.s20) ?_
        intro _ s2 ⟨d1, d2, d3, d4⟩
        refine rI s rfl hs ?_
        rw [(d1.1 s hs).1]
        exact jLe (fun _ => by omega) (fun h => wp_some ⟨rfl, (rp20 σ 0).trans d4⟩)
  · refine op_same h (-1) (fun σ hC => ?_) (fun σ hR => ?_)
    · unfold fX6_cost
      refine wp_bnd _ (c_isStop fu σ ha) ?_
      rintro x s' ⟨h0, h1, rfl⟩
      exact iNe0 (fun _ => by omega) (fun h => wp_some ⟨rfl, CP.refl σ⟩)
    · unfold fX7_cost
      refine wp_stf ?_
      refine wp_bnd _ (r_isStop fu _ ha) ?_
      rintro x s' ⟨h0, h1, rfl⟩
      exact iNe0 (fun _ => by omega) (fun h => wp_some ⟨rfl, rp20 σ 0⟩)
noncomputable def stw (V : Mem) (t : Int) (s : Nat) : Int := if 0 ≤ cv V s ∧ cv V s ≤ t then 1 else 0
theorem stw_01 {t : Int} (s : Nat) : stw V t s = 0 ∨ stw V t s = 1 := by unfold stw; split <;> simp
theorem smf_congr {f g : Nat → Int} : ∀ n, (∀ i, i < n → f i = g i) → smf f n = smf g n ∧ bts f n = bts g n := by
  intro n
  induction n with
  | zero => intro _; exact ⟨rfl, rfl⟩
  | succ n ih =>
    intro h
    have := ih (fun i hi => h i (by omega))
    simp only [smf, bts]
    rw [this.1, this.2, h n (by omega)]
    exact ⟨rfl, rfl⟩
theorem c_within (ok : OkN V) (hfu : 1000 < fu) (hD : CostC V σ) (ha : R32 a) : wp (fX2_stopsWithin fu a σ) (fun r σ' => r = bts (stw V a) 10 ∧ σ = σ') := by
  unfold fX2_stopsWithin
  refine for2 (f := fX2_stopsWithin_L4 fu a _) 10 (fun i x s => x = bts (stw V a) i ∧ σ = s) ?_ ?_ (i := 0) ⟨rfl, rfl⟩
  · rintro n i x s hi ⟨rfl, rfl⟩ hrec
    have hv := cv_b ok i
    rw [fX2_stopsWithin_L4]
    refine iLe (fun h => by omega) (fun _ => ?_)
    refine rS i rfl hi (wp_lt ?_)
    rw [(hD.1 i hi).1]
    refine wp_ji (fun y s' => y = stw V a i ∧ σ = s') ?_ ?_
    · rintro y s' ⟨rfl, rfl⟩
      refine wp_bnd _ (c_bit fu σ (stw_01 i)) ?_
      rintro y s' ⟨rfl, rfl⟩
      exact wp_lt (hrec _ _ ⟨rfl, rfl⟩)
    · intro j hj
      refine wp_jn ?_
      refine iEq (fun h => hj _ _ ⟨?_, rfl⟩) (fun h => ?_)
      · unfold stw; rw [if_neg (by omega)]
      · refine iLt (fun h2 => hj _ _ ⟨?_, rfl⟩) (fun h2 => hj _ _ ⟨?_, rfl⟩) ha
        · unfold stw; rw [if_neg (by omega)]
        · unfold stw; rw [if_pos (by omega)]
  · rintro n x s ⟨rfl, rfl⟩
    rw [fX2_stopsWithin_L4]
    exact iLe (fun _ => wp_some ⟨rfl, rfl⟩) (fun h => by omega)
theorem r_costed (ok : OkN V) (hfu : 1000 < fu) (hD : ∀ s, s < 10 → σ 346 s = cv V s) : wp (fX7_costed fu σ) (fun r σ' => r = smf (stw V 2147483647) 10 ∧ σ = σ') := by
  unfold fX7_costed
  refine for2 (f := fX7_costed_L4 fu _) 10 (fun i x s => x = smf (stw V 2147483647) i ∧ σ = s) ?_ ?_ (i := 0) ⟨rfl, rfl⟩
  · rintro n i x s hi ⟨rfl, rfl⟩ hrec
    have hv := cv_b ok i
    rw [fX7_costed_L4]
    refine iLe (fun h => by omega) (fun _ => ?_)
    refine rI i rfl hi ?_
    rw [hD i hi]
    refine wp_jn (jLt (fun h => wp_lt (hrec _ _ ⟨?_, rfl⟩)) (fun h => wp_lt (hrec _ _ ⟨?_, rfl⟩)))
    · simp only [smf]; unfold stw; rw [if_neg (by omega)]
    · simp only [smf]; unfold stw; rw [if_pos (by omega)]
  · rintro n x s ⟨rfl, rfl⟩
    rw [fX7_costed_L4]
    exact iLe (fun _ => wp_some ⟨rfl, rfl⟩) (fun h => by omega)
theorem op_rounds (h : OkA t V) (hfu : 1000 < fu) : Op t V (fX6_rounds fu) (fX7_rounds fu) := by
  have hbb := smf_b (f := stw V 2147483647) 10 (fun i _ => stw_01 i)
  have hbc := bts_bc (f := stw V 2147483647) (n := 10) (by omega) (fun i _ => stw_01 i)
  refine ⟨(rdv V : Int) + 1, row1 V (smf (stw V 2147483647) 10), (row1_ok h).up, fun σ hC => ?_, fun σ hR => ?_⟩
  · unfold fX6_rounds
    refine wp_bnd _ (c_find h hfu hC) ?_
    intro _ s2 ⟨d1, d2, d3, d4⟩
    refine wp_bnd _ (c_within h.1 hfu d1 (by omega)) ?_
    rintro x s' ⟨rfl, rfl⟩
    refine wp_bnd _ (c_bitCount fu _ _) ?_
    rintro x s' ⟨rfl, rfl⟩
    rw [hbc, w32_sm (by omega) (by omega)]
    refine wp_bnd _ (c_putOne fu h.1 d2) ?_
    intro _ s3 ⟨q1, q2, q3⟩
    exact wp_some ⟨by rw [q3 _ _ (by omega) (by omega)]; exact d1.2.2, q1, d3.trans q2⟩
  · unfold fX7_rounds
    refine wp_stf ?_
    refine wp_bnd _ (r_lays h hfu hR.s20) ?_
    intro _ s2 ⟨d1, d2, d3, d4⟩
    refine wp_stf ?_
    refine wp_bnd _ (r_costed (V := V) h.1 hfu (fun s hs => by rw [ms_k (by omega)]; exact (d1.1 s hs).1)) ?_
    rintro x s' ⟨rfl, rfl⟩
    rw [w32_sm (by omega) (by omega)]
    refine wp_bnd _ (r_tell fu (by rw [emp_19]; omega) (r_emp d2)) ?_
    intro _ s3 ⟨q1, q2, q3⟩
    exact wp_some ⟨by rw [q3 _ _ (by omega) (by omega), ms_j (by omega)]; exact d1.2.2, q1, ((lo20 σ 0).trans (lo19 d3 0)).trans q2⟩
theorem op_reach (h : OkA t V) (hfu : 1000 < fu) (ha : R32 a) : Op t V (fX6_reach fu a) (fX7_reach fu a) := by
  by_cases hc : 0 ≤ a
  · have hbb := bts_b (f := stw V a) (n := 10) (by omega) (fun i _ => stw_01 i)
    have hbc := bts_bc (f := stw V a) (n := 10) (by omega) (fun i _ => stw_01 i)
    refine ⟨smf (stw V a) 10, row1 V (bts (stw V a) 10), (row1_ok h).up, fun σ hC => ?_, fun σ hR => ?_⟩
    · unfold fX6_reach
      refine iGe0 (fun _ => ?_) (fun h => by omega) ha
      refine wp_bnd _ (c_find h hfu hC) ?_
      intro _ s2 ⟨d1, d2, d3, d4⟩
      refine wp_bnd _ (c_within h.1 hfu d1 ha) ?_
      rintro x s' ⟨rfl, rfl⟩
      rw [w32_sm (by omega) (by omega)]
      refine wp_bnd _ (c_putOne fu h.1 d2) ?_
      intro _ s3 ⟨q1, q2, q3⟩
      refine wp_bnd _ (c_bitCount fu _ _) ?_
      rintro x s' ⟨rfl, rfl⟩
      exact wp_some ⟨hbc, q1, d3.trans q2⟩
    · unfold fX7_reach
      refine wp_stf ?_
      refine iGe0 (fun _ => ?_) (fun h => by omega) ha
      refine wp_bnd _ (r_lays h hfu hR.s20) ?_
      intro _ s2 ⟨d1, d2, d3, d4⟩
      refine for3 (f := fX7_reach_L22 fu a _) 10 (fun i x y s => x = bts (stw V a) i ∧ y = smf (stw V a) i ∧ s2 = s) ?_ ?_ (i := 0) ⟨rfl, rfl, rfl⟩
      · rintro n i x y s hi ⟨rfl, rfl, rfl⟩ hrec
        have hv := cv_b h.1 i
        have hz := (bts_0 (f := stw V a) (n := i) (by omega) (fun i _ => stw_01 i)).2
        rw [fX7_reach_L22]
        refine iLe (fun h => by omega) (fun _ => ?_)
        refine rI i rfl hi ?_
        rw [(d1.1 i hi).1]
        refine wp_jn (jLt (fun h => hrec _ _ _ ⟨?_, ?_, rfl⟩) (fun h => ?_))
        · simp only [bts]; unfold stw at hz ⊢; rw [if_neg (by omega : ¬ (0 ≤ cv V i ∧ cv V i ≤ a))]; exact hz.symm
        · simp only [smf]; unfold stw; rw [if_neg (by omega : ¬ (0 ≤ cv V i ∧ cv V i ≤ a))]; omega
        · refine rI i rfl hi ?_
          rw [(d1.1 i hi).1, w32_id ha]
          refine jLe (fun h2 => wp_lt (hrec _ _ _ ⟨?_, ?_, rfl⟩)) (fun h2 => hrec _ _ _ ⟨?_, ?_, rfl⟩)
          · simp only [bts]; unfold stw; rw [if_pos (by omega : (0 ≤ cv V i ∧ cv V i ≤ a))]
          · simp only [smf]; unfold stw; rw [if_pos (by omega : (0 ≤ cv V i ∧ cv V i ≤ a))]
          · simp only [bts]; unfold stw at hz ⊢; rw [if_neg (by omega : ¬ (0 ≤ cv V i ∧ cv V i ≤ a))]; exact hz.symm
          · simp only [smf]; unfold stw; rw [if_neg (by omega : ¬ (0 ≤ cv V i ∧ cv V i ≤ a))]; omega
      · rintro n x y s ⟨rfl, rfl, rfl⟩
        rw [fX7_reach_L22]
        refine iLe (fun _ => ?_) (fun h => by omega)
        refine wp_stf ?_
        rw [w32_sm (by omega) (by omega)]
        refine wp_bnd _ (r_tell fu (by rw [emp_19]; omega) (r_emp d2)) ?_
        intro _ s3 ⟨q1, q2, q3⟩
        exact wp_some ⟨rfl, q1, ((lo20 σ 0).trans (lo19 d3 0)).trans q2⟩
  · refine op_same h (-1) (fun σ hC => ?_) (fun σ hR => ?_)
    · unfold fX6_reach
      exact iGe0 (fun _ => by omega) (fun h => wp_some ⟨rfl, CP.refl σ⟩) ha
    · unfold fX7_reach
      refine wp_stf ?_
      exact iGe0 (fun _ => by omega) (fun h => wp_some ⟨rfl, rp20 σ 0⟩) ha
end COPS
