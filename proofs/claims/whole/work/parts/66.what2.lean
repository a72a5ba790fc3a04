/-! ===== slower, best, centre, spare ===== -/
section WHAT2
variable {V V' σ σ' X : Mem} {c rid : Nat → Int} {t k j l p s P fu : Nat} {a b v r A B x : Int}
theorem cls_set32 (h : Cls V σ) (ok : OkN V) (hl : l < nn V) (hp : p + 1 < ln V l) : Cls (mset V 332 (8 * l + p) a) (mset σ (PL σ l + 2) p a) := by
  have hap : ∀ m, m < nn V → m ≠ l → PL σ m + 10 < PL σ l ∨ PL σ l + 10 < PL σ m := fun m hm e => h.apart ok hm hl e
  have hPl := h.isL ok hl
  have h8 := ok.len hl
  obtain ⟨h1, h2, h3, h4, h5, h6, h7, h9⟩ := h
  obtain ⟨t1, t2, t3⟩ := tab_mv h1 (σ' := mset σ (PL σ l + 2) p a) (ms_k (by omega)) (ms_k (by omega)) (fun j => ms_k (by omega)) (fun j => ms_k (by omega))
  have hnn : nn (mset V 332 (8 * l + p) a) = nn V := by unfold nn; rw [ms_k (by omega)]
  refine ⟨t1, by simp (disch := omega) only [ms_k]; exact h2, by simp (disch := omega) only [ms_k]; exact h3, by simp (disch := omega) only [ms_k]; exact h4, by simp (disch := omega) only [ms_k]; exact h5, by simp (disch := omega) only [ms_k]; exact h6, fun q hq => by simp (disch := omega) only [ms_k]; exact h7 q hq, fun m hm => ?_⟩
  rw [hnn] at hm
  have hP := h1.2.1 m (by have := ok.n; omega)
  have hm8 := ok.len hm
  have hx := h9 m hm
  have hln : ln (mset V 332 (8 * l + p) a) m = ln V m := by unfold ln; rw [ms_k (by omega)]
  rw [t2]
  unfold LnAt at hx ⊢
  rw [hln]
  by_cases e : m = l
  · subst e
    simp (disch := omega) only [ms_k]
    refine ⟨hx.1, hx.2.1, hx.2.2.1, hx.2.2.2.1, hx.2.2.2.2.1, hx.2.2.2.2.2.1, fun q hq => ?_⟩
    have hq2 := hx.2.2.2.2.2.2 q hq
    by_cases e2 : q = p
    · rw [e2] at hq2 ⊢
      exact ⟨by rw [ms_eq, ms_eq], hq2.2⟩
    · simp (disch := omega) only [ms_j]
      exact hq2
  · have := hap m hm e
    simp (disch := omega) only [ms_k]
    refine ⟨hx.1, hx.2.1, hx.2.2.1, hx.2.2.2.1, hx.2.2.2.2.1, hx.2.2.2.2.2.1, fun q hq => ?_⟩
    have hq2 := hx.2.2.2.2.2.2 q hq
    simp (disch := omega) only [ms_j]
    exact hq2
theorem okn_set32 (ok : OkN V) (hl : l < nn V) (hp : p + 1 < ln V l) (ha : 1 ≤ a ∧ a ≤ 198) : OkN (mset V 332 (8 * l + p) a) := by
  have h8 := ok.len hl
  obtain ⟨o1, o2, o3, o4, o5, o6⟩ := id ok
  have hnn : nn (mset V 332 (8 * l + p) a) = nn V := by unfold nn; rw [ms_k (by omega)]
  refine ⟨by rw [ms_k (by omega)]; exact o1, by rw [ms_k (by omega)]; exact o2, by rw [ms_k (by omega)]; exact o3, by rw [ms_k (by omega)]; exact o4, fun q hq => by rw [ms_k (by omega), ms_k (by omega)]; exact o5 q hq, fun m hm => ?_⟩
  rw [hnn] at hm
  have hx := o6 m hm
  unfold OkL ln at hx ⊢
  simp (disch := omega) only [ms_k]
  refine ⟨hx.1, hx.2.1, hx.2.2.1, hx.2.2.2.1, hx.2.2.2.2.1, hx.2.2.2.2.2.1, hx.2.2.2.2.2.2.1, fun q hq => ?_⟩
  have hq2 := hx.2.2.2.2.2.2.2 q hq
  refine ⟨?_, hq2.2⟩
  rw [mset_eq]
  split
  · exact ha
  · exact hq2.1
theorem st_set32 (st : StN V) (ha : a ≤ 99) : StN (mset V 332 j a) := by
  intro m hm q hq
  unfold nn at hm
  unfold ln at hq
  rw [ms_k (by omega)] at hm hq
  have hx := st m hm q hq
  rw [ms_k (show (333 : Nat) ≠ 332 by omega), mset_eq]
  refine ⟨?_, hx.2⟩
  split
  · exact ha
  · exact hx.1
theorem op_slower {d : Int} (h : OkA t V) (hfu : 1000 < fu) (ha : R32 a) (hb : R32 b) (hd : R32 d) : Op t V (fX6_slower fu a b d) (fX7_slower fu a b d) := by
  have hn := h.1.n
  by_cases hc : 0 ≤ a ∧ a < V 328 9 ∧ 0 ≤ b ∧ b < V 330 a.toNat - 1
  · obtain ⟨l, rfl⟩ := Int.eq_ofNat_of_zero_le hc.1
    obtain ⟨p, rfl⟩ := Int.eq_ofNat_of_zero_le hc.2.2.1
    have hl : l < nn V := by omega
    rw [Int.toNat_natCast] at hc
    have h8 := h.1.len hl
    have hp : p + 1 < ln V l := by omega
    have hO := (h.1.ok hl).2.2.2.2.2.2.2 p hp
    by_cases hx : 1 ≤ V 332 (8 * l + p) + d ∧ V 332 (8 * l + p) + d ≤ 99
    · have h1 : OkA t (mset V 332 (8 * l + p) (V 332 (8 * l + p) + d)) := h.with (okn_set32 h.1 hl hp (by omega)) (st_set32 h.2.2.1.2.2 hx.2) (fun i hi => ms_k (by omega))
      refine ⟨totv (mset V 332 (8 * l + p) (V 332 (8 * l + p) + d)), row2 V (totv (mset V 332 (8 * l + p) (V 332 (8 * l + p) + d)) - totv V) (strv (mset V 332 (8 * l + p) (V 332 (8 * l + p) + d))), (row2_ok h).up, fun σ hC => ?_, fun σ hR => ?_⟩
      · have hL := hC.1.ln hl
        unfold fX6_slower
        refine wp_bnd _ (c_hasStep h.1 hC.1 ha hb) ?_
        rintro x s' ⟨h0, h1', rfl⟩
        rw [Int.toNat_natCast] at h1'
        refine iNe0 (fun _ => ?_) (fun h => by omega)
        refine wp_rfd (rR l rfl (by omega) ?_)
        rw [show pl (σ (pl (σ 136 0)) l) = PL σ l from rfl]
        refine rI p rfl (by omega) (wp_lt ?_)
        rw [(hL.2.2.2.2.2.2 p hp).1, w32_id hd, w32_sm (x := V 332 (8 * l + p)) (by omega) (by omega)]
        refine wp_jn (jLt (fun h => by omega) (fun _ => ?_))
        refine jLe (fun _ => ?_) (fun h => by omega)
        refine wp_bnd _ (c_totalNow h hfu hC) ?_
        rintro x s2 ⟨rfl, d2, d3, d4, d5⟩
        rw [← (d5.tab hC.1.1).2.1 l]
        refine wI p rfl (by omega) ?_
        have hP := d3.1.isL h.1 hl
        have hC1 : ClsA (mset V 332 (8 * l + p) (V 332 (8 * l + p) + d)) (mset s2 (PL s2 l + 2) p (V 332 (8 * l + p) + d)) := d3.of (cls_set32 d3.1 h.1 hl hp) (fun k j hk => ms_k (by omega)) (ms_k (by omega)) (ms_k (by omega)) (fun i => ms_k (by omega)) (fun i => ms_k (by omega))
        have hPL1 := (tab_mv d3.1.1 (σ' := mset s2 (PL s2 l + 2) p (V 332 (8 * l + p) + d)) (ms_k (by omega)) (ms_k (by omega)) (fun j => ms_k (by omega)) (fun j => ms_k (by omega))).2.1 l
        refine wp_bnd _ (c_findTotal h1 hfu hC1) ?_
        intro _ s4 ⟨e1, e2, e3, e4, e5, e6⟩
        have hPL4 : PL s4 l = PL s2 l := by rw [(e6.tab hC1.1.1).2.1, hPL1]
        have hl1 : l < nn (mset V 332 (8 * l + p) (V 332 (8 * l + p) + d)) := by unfold nn; rw [ms_k (by omega)]; exact hl
        have hp1 : p + 1 < ln (mset V 332 (8 * l + p) (V 332 (8 * l + p) + d)) l := by unfold ln; rw [ms_k (by omega)]; exact hp
        refine wI p rfl (by omega) ?_
        have hbk : ClsA V (mset s4 (PL s2 l + 2) p (V 332 (8 * l + p))) := by
          have := cls_set32 (a := V 332 (8 * l + p)) e4.1 h1.1 hl1 hp1
          rw [mset_back, hPL4] at this
          exact e4.of this (fun k j hk => ms_k (by omega)) (ms_k (by omega)).symm (ms_k (by omega)).symm (fun i => (ms_k (by omega)).symm) (fun i => (ms_k (by omega)).symm)
        refine wp_bnd _ (c_tellDiff (A := totv (mset V 332 (8 * l + p) (V 332 (8 * l + p) + d))) (B := strv (mset V 332 (8 * l + p) (V 332 (8 * l + p) + d))) h.1 hbk (by rw [ms_k (by omega)]; exact e1) (by rw [ms_k (by omega)]; exact e2)) ?_
        rintro x s5 ⟨rfl, w1, w2⟩
        exact wp_some ⟨rfl, w1, (((d4.set (by omega)).trans e5).set (by omega)).trans w2⟩
      · unfold fX7_slower
        refine wp_stf ?_
        refine wp_bnd _ (r_isStep h.1 hR.s20.1 ha hb) ?_
        rintro x s' ⟨h0, h1', rfl⟩
        rw [Int.toNat_natCast] at h1'
        refine wp_jn (iEq0 (fun h => by omega) (fun _ => ?_))
        unfold fX7_at
        refine wp_bs (rI (8 * l + p) (by omega) (by omega) ?_)
        rw [hR.s20.1.2 332 _ (by omega) (by omega), w32_id hd, w32_sm (x := V 332 (8 * l + p)) (by omega) (by omega)]
        refine wp_bnd _ (r_in fu (by omega) (by omega) (by omega)) ?_
        rintro x s' ⟨g0, g1, rfl⟩
        refine iNe0 (fun _ => ?_) (fun h => by omega)
        refine wp_bnd _ (r_before h hfu hR.s20) ?_
        rintro x s2 ⟨rfl, d2, d3, d4, d5⟩
        refine wp_stf (wp_bs (rI (8 * l + p) (by omega) (by omega) (wI (8 * l + p) (by omega) (by omega) ?_)))
        rw [ms_k (by omega), d3.1.2 332 _ (by omega) (by omega)]
        refine wp_bnd _ (r_what h1 hfu d3.s47 (by omega)) ?_
        rintro x s3 ⟨rfl, e2, e3, e4, e5, e6⟩
        refine wp_bs (rI (8 * l + p) (by omega) (by omega) (wI (8 * l + p) (by omega) (by omega) ?_))
        rw [e3.1.2 332 _ (by omega) (by omega), ms_eq, show V 332 (8 * l + p) + d - d = V 332 (8 * l + p) by omega]
        refine wp_bnd _ (r_strandedNow (V := mset V 332 (8 * l + p) (V 332 (8 * l + p) + d)) h1.1 hfu ?_ (fun s hs => ?_) (fun s hs => ?_)) ?_
        · rw [ms_k (by omega), ms_k (by omega), e3.1.j (by omega), ms_k (by omega)]
        · rw [ms_k (by omega), ms_k (by omega), e3.2.1 s hs, ms_k (by omega)]
        · rw [ms_k (by omega)]; exact (e2.1 s hs).1
        · rintro x s' ⟨rfl, rfl⟩
          refine wp_bnd _ (r_tells (B := totv V) e4 ?_) ?_
          · rw [ms_k (by omega), e6.at (by omega), ms_k (by omega), ms_eq]
          · rintro x s' ⟨rfl, w1, w2⟩
            exact wp_some ⟨rfl, w1, (((lo20 σ 0).trans (d4.set (by omega))).trans (e5.set (by omega))).trans w2⟩
    · refine op_same h (-1) (fun σ hC => ?_) (fun σ hR => ?_)
      · have hL := hC.1.ln hl
        unfold fX6_slower
        refine wp_bnd _ (c_hasStep h.1 hC.1 ha hb) ?_
        rintro x s' ⟨h0, h1', rfl⟩
        rw [Int.toNat_natCast] at h1'
        refine iNe0 (fun _ => ?_) (fun h => by omega)
        refine wp_rfd (rR l rfl (by omega) ?_)
        rw [show pl (σ (pl (σ 136 0)) l) = PL σ l from rfl]
        refine rI p rfl (by omega) (wp_lt ?_)
        rw [(hL.2.2.2.2.2.2 p hp).1, w32_id hd, w32_sm (x := V 332 (8 * l + p)) (by omega) (by omega)]
        refine wp_jn (jLt (fun h => wp_some ⟨rfl, CP.refl σ⟩) (fun _ => ?_))
        exact jLe (fun _ => by omega) (fun h => wp_some ⟨rfl, CP.refl σ⟩)
      · unfold fX7_slower
        refine wp_stf ?_
        refine wp_bnd _ (r_isStep h.1 hR.s20.1 ha hb) ?_
        rintro x s' ⟨h0, h1', rfl⟩
        rw [Int.toNat_natCast] at h1'
        refine wp_jn (iEq0 (fun h => by omega) (fun _ => ?_))
        unfold fX7_at
        refine wp_bs (rI (8 * l + p) (by omega) (by omega) ?_)
        rw [hR.s20.1.2 332 _ (by omega) (by omega), w32_id hd, w32_sm (x := V 332 (8 * l + p)) (by omega) (by omega)]
        refine wp_bnd _ (r_in fu (by omega) (by omega) (by omega)) ?_
        rintro x s' ⟨g0, g1, rfl⟩
        exact iNe0 (fun _ => by omega) (fun h => wp_some ⟨rfl, rp20 σ 0⟩)
  · refine op_same h (-1) (fun σ hC => ?_) (fun σ hR => ?_)
    · unfold fX6_slower
      refine wp_bnd _ (c_hasStep h.1 hC.1 ha hb) ?_
      rintro x s' ⟨h0, h1, rfl⟩
      exact iNe0 (fun _ => by omega) (fun h => wp_some ⟨rfl, CP.refl σ⟩)
    · unfold fX7_slower
      refine wp_stf ?_
      refine wp_bnd _ (r_isStep h.1 hR.s20.1 ha hb) ?_
      rintro x s' ⟨h0, h1, rfl⟩
      exact wp_jn (iEq0 (fun h => wp_some ⟨rfl, rp20 σ 0⟩) (fun _ => by omega))
/-! best -/
theorem r_beforeR (ok : OkN V) (h37 : -1 ≤ V 328 37 ∧ V 328 37 ≤ 95) (hfu : 1000 < fu) (hR : Ref V σ) (hr : ∀ s, s < 10 → σ 338 s = V 338 s) : wp (fX7_before fu σ) (fun r σ' => r = totv V ∧ CostR V σ' ∧ RQ σ σ') := by
  unfold fX7_before
  refine wp_bnd _ (q_laysCosts ok hfu hR h37) ?_
  intro _ s2 ⟨d1, d2⟩
  refine wp_bnd _ (r_totalNow ok hfu (fun s hs => by rw [d2.at (by omega)]; exact hr s hs) (fun s hs => (d1.1 s hs).1)) ?_
  rintro x s' ⟨rfl, rfl⟩
  exact wp_some ⟨rfl, d1, d2⟩
noncomputable def bsF (V : Mem) (k : Int) : Nat → Int × Int
  | 0 => (-1, 0)
  | i + 1 => if V 337 i = 0 ∧ V 329 i + k ≤ 60 ∧ ((bsF V k i).1 = -1 ∨ totv (mset V 329 i (V 329 i + k)) < (bsF V k i).2) then ((i : Int), totv (mset V 329 i (V 329 i + k))) else bsF V k i
theorem bsF_take {i : Nat} {k : Int} (h : V 337 i = 0 ∧ V 329 i + k ≤ 60 ∧ ((bsF V k i).1 = -1 ∨ totv (mset V 329 i (V 329 i + k)) < (bsF V k i).2)) : bsF V k (i + 1) = ((i : Int), totv (mset V 329 i (V 329 i + k))) := if_pos h
theorem bsF_keep {i : Nat} {k : Int} (h : ¬ (V 337 i = 0 ∧ V 329 i + k ≤ 60 ∧ ((bsF V k i).1 = -1 ∨ totv (mset V 329 i (V 329 i + k)) < (bsF V k i).2))) : bsF V k (i + 1) = bsF V k i := if_neg h
theorem bsF_b (h : OkA t V) {k : Int} (hk : 1 ≤ k) : ∀ i, i ≤ nn V → (-1 ≤ (bsF V k i).1 ∧ (bsF V k i).1 < (i : Int)) ∧ 0 ≤ (bsF V k i).2 ∧ (bsF V k i).2 ≤ 1779822000000 := by
  intro i
  induction i with
  | zero => intro _; exact ⟨by show (-1 : Int) ≤ -1 ∧ (-1 : Int) < 0; omega, by show (0 : Int) ≤ 0 ∧ (0 : Int) ≤ 1779822000000; omega⟩
  | succ i ih =>
    intro hi
    have ih := ih (by omega)
    by_cases g : V 337 i = 0 ∧ V 329 i + k ≤ 60 ∧ ((bsF V k i).1 = -1 ∨ totv (mset V 329 i (V 329 i + k)) < (bsF V k i).2)
    · rw [bsF_take g]
      have hf := (h.1.ok (show i < nn V by omega)).1
      have := totv_b (h.setL' (l := i) (k := 329) (a := V 329 i + k) (by omega) (by omega)).1
      exact ⟨by show -1 ≤ (i : Int) ∧ (i : Int) < ((i + 1 : Nat) : Int); omega, this⟩
    · rw [bsF_keep g]
      exact ⟨by omega, ih.2⟩
theorem op_best (h : OkA t V) (hfu : 1000 < fu) (ha : R32 a) : Op t V (fX6_best fu a) (fX7_best fu a) := by
  have hn := h.1.n
  by_cases hc : 1 ≤ a ∧ a ≤ 59
  · have htv := totv_b h.1
    have hbb := bsF_b h hc.1 (nn V) (Nat.le_refl _)
    have hcc : ∀ (x : Int) (σ : Mem), ClsA V σ → ∀ (Q : Int → Mem → Prop) (K : Int → Int → Mem → PR), (∀ s2, ClsA V s2 → Hi σ s2 → wp (K (bsF V a (nn V)).2 (bsF V a (nn V)).1 s2) Q) → wp (fX6_best_L27 fu a x K fu 0 (-1) 0 σ) Q := by
      intro x σ hC Q K hK
      refine for3 (f := fX6_best_L27 fu a x K) (nn V) (fun i y z s => y = (bsF V a i).2 ∧ z = (bsF V a i).1 ∧ ClsA V s ∧ Hi σ s) ?_ ?_ (i := 0) ⟨rfl, rfl, hC, Hi.refl σ⟩
      · rintro n i y z s hi ⟨rfl, rfl, j1, j2⟩ hrec
        have hb := bsF_b h hc.1 i (by omega)
        have hL := j1.1.ln hi
        have hf := (h.1.ok hi).1
        have h337 := (h.1.ok hi).2.2.2.2.1
        rw [fX6_best_L27, j1.1.2.1]
        refine iLe (fun h => by omega) (fun _ => ?_)
        refine wp_rfd (rR i rfl (by omega) ?_)
        rw [show pl (s (pl (s 136 0)) i) = PL s i from rfl, hL.2.2.2.2.1]
        refine wp_jn (iNe0 (fun g => hrec _ _ _ ?_) (fun g => ?_))
        · rw [bsF_keep (fun q => g q.1)]; exact ⟨rfl, rfl, j1, j2⟩
        · refine wp_rfd (rR i rfl (by omega) ?_)
          rw [show pl (s (pl (s 136 0)) i) = PL s i from rfl]
          refine wp_bnd _ (c_canBeMore (by rw [hL.1]; exact hf) ha) ?_
          rintro w s' ⟨w0, w1, rfl⟩
          rw [hL.1] at w1
          refine iEq0 (fun g2 => hrec _ _ _ ?_) (fun g2 => ?_)
          · rw [bsF_keep (by omega)]; exact ⟨rfl, rfl, j1, j2⟩
          · refine wp_rfd (rR i rfl (by omega) ?_)
            rw [show pl (s (pl (s 136 0)) i) = PL s i from rfl]
            have htb := totv_b (h.setL' (l := i) (k := 329) (a := V 329 i + a) hi (by omega)).1
            refine wp_bnd _ (c_withMore h hfu hi (by omega) j1) ?_
            intro _ s4 ⟨e1, e2, e3, e4, e5⟩
            refine wp_jn ?_
            rw [e1]
            refine iEq (fun g3 => wp_lt (hrec _ _ _ ?_)) (fun g3 => ?_)
            · rw [bsF_take ⟨g, by omega, Or.inl g3⟩]; exact ⟨by rw [e1], rfl, e3, j2.trans e4⟩
            · refine jLe (fun g4 => hrec _ _ _ ?_) (fun g4 => wp_lt (hrec _ _ _ ?_))
              · rw [bsF_keep (by omega)]; exact ⟨rfl, rfl, e3, j2.trans e4⟩
              · rw [bsF_take ⟨g, by omega, Or.inr g4⟩]; exact ⟨by rw [e1], rfl, e3, j2.trans e4⟩
      · rintro n y z s ⟨rfl, rfl, j1, j2⟩
        rw [fX6_best_L27, j1.1.2.1]
        exact iLe (fun _ => hK s j1 j2) (fun h => by omega)
    have hrr : ∀ (σ : Mem), RefA V σ → ∀ (Q : Int → Mem → Prop) (K : Int → Int → Mem → PR), (∀ s2, RefA V s2 → Lo σ s2 → wp (K (bsF V a (nn V)).1 (bsF V a (nn V)).2 s2) Q) → wp (fX7_best_L26 fu a K fu (-1) 0 0 σ) Q := by
      intro σ hR Q K hK
      refine for3 (f := fX7_best_L26 fu a K) (nn V) (fun i y z s => y = (bsF V a i).1 ∧ z = (bsF V a i).2 ∧ RefA V s ∧ Lo σ s) ?_ ?_ (i := 0) ⟨rfl, rfl, hR, Lo.refl σ⟩
      · rintro n i y z s hi ⟨rfl, rfl, j1, j2⟩ hrec
        have hb := bsF_b h hc.1 i (by omega)
        have hf := (h.1.ok hi).1
        have h337 := (h.1.ok hi).2.2.2.2.1
        rw [fX7_best_L26, j1.1.j (by omega)]
        refine iLe (fun h => by omega) (fun _ => ?_)
        refine rI i rfl (by omega) ?_
        rw [j1.1.2 337 _ (by omega) (by omega)]
        refine wp_jn (iNe0 (fun g => hrec _ _ _ ?_) (fun g => ?_))
        · rw [bsF_keep (fun q => g q.1)]; exact ⟨rfl, rfl, j1, j2⟩
        · refine rI i rfl (by omega) ?_
          rw [j1.1.2 329 _ (by omega) (by omega)]
          refine iLe (fun g2 => ?_) (fun g2 => hrec _ _ _ ?_)
          · have htb := totv_b (h.setL' (l := i) (k := 329) (a := V 329 i + a) hi (by omega)).1
            refine wp_bnd _ (r_totalWith h hfu hi (by omega) j1) ?_
            rintro w s4 ⟨rfl, e2, e3, e4, e5⟩
            refine wp_jn ?_
            refine iEq (fun g3 => hrec _ _ _ ?_) (fun g3 => ?_)
            · rw [bsF_take ⟨g, by omega, Or.inl g3⟩]; exact ⟨rfl, rfl, e3, j2.trans e4⟩
            · refine jLt (fun g4 => hrec _ _ _ ?_) (fun g4 => hrec _ _ _ ?_)
              · rw [bsF_take ⟨g, by omega, Or.inr g4⟩]; exact ⟨rfl, rfl, e3, j2.trans e4⟩
              · rw [bsF_keep (by omega)]; exact ⟨rfl, rfl, e3, j2.trans e4⟩
          · rw [bsF_keep (by omega)]; exact ⟨rfl, rfl, j1, j2⟩
      · rintro n y z s ⟨rfl, rfl, j1, j2⟩
        rw [fX7_best_L26, j1.1.j (by omega)]
        exact iLe (fun _ => hK s j1 j2) (fun h => by omega)
    by_cases hd : (bsF V a (nn V)).1 = -1
    · refine ⟨-2, V, h.up, fun σ hC => ?_, fun σ hR => ?_⟩
      · unfold fX6_best
        refine wp_jn (iLt (fun h => by omega) (fun _ => ?_) ha)
        refine iLe (fun _ => ?_) (fun h => by omega) ha
        refine wp_bnd _ (c_totalNow h hfu hC) ?_
        rintro x s2 ⟨rfl, d2, d3, d4, d5⟩
        refine hcc _ s2 d3 _ _ (fun s3 e1 e2 => ?_)
        rw [hd]
        exact iNe (fun h => by omega) (fun _ => wp_some ⟨rfl, e1, d4.trans e2⟩)
      · unfold fX7_best
        refine wp_stf ?_
        rw [w32_id ha]
        refine wp_bnd _ (r_in fu (by omega) (by omega) (by omega)) ?_
        rintro x s' ⟨g0, g1, rfl⟩
        refine iNe0 (fun _ => ?_) (fun h => by omega)
        refine hrr _ hR.s20 _ _ (fun s3 e1 e2 => ?_)
        rw [hd]
        exact iNe (fun h => by omega) (fun _ => wp_some ⟨rfl, e1, (lo20 σ 0).trans e2⟩)
    · refine ⟨(bsF V a (nn V)).1, row1 V ((bsF V a (nn V)).2 - totv V), (row1_ok h).up, fun σ hC => ?_, fun σ hR => ?_⟩
      · unfold fX6_best
        refine wp_jn (iLt (fun h => by omega) (fun _ => ?_) ha)
        refine iLe (fun _ => ?_) (fun h => by omega) ha
        refine wp_bnd _ (c_totalNow h hfu hC) ?_
        rintro x s2 ⟨rfl, d2, d3, d4, d5⟩
        refine hcc _ s2 d3 _ _ (fun s3 e1 e2 => ?_)
        refine iNe (fun _ => ?_) (fun h => absurd h hd)
        refine wp_bnd _ (c_putOne fu h.1 e1) ?_
        intro _ s4 ⟨q1, q2, q3⟩
        exact wp_some ⟨rfl, q1, (d4.trans e2).trans q2⟩
      · unfold fX7_best
        refine wp_stf ?_
        rw [w32_id ha]
        refine wp_bnd _ (r_in fu (by omega) (by omega) (by omega)) ?_
        rintro x s' ⟨g0, g1, rfl⟩
        refine iNe0 (fun _ => ?_) (fun h => by omega)
        refine hrr _ hR.s20 _ _ (fun s3 e1 e2 => ?_)
        refine iNe (fun _ => ?_) (fun h => absurd h hd)
        refine wp_stf ?_
        refine wp_bnd _ (r_beforeR h.1 (by have := h.2.1; omega) hfu (V := V) ⟨fun j hj => by rw [ms_j (by omega)]; exact e1.1.1 j hj, fun k j h1 h2 => by rw [ms_k (by omega)]; exact e1.1.2 k j h1 h2⟩ (fun s hs => by rw [ms_k (by omega)]; exact e1.2.1 s hs)) ?_
        rintro x s4 ⟨rfl, d2, d3⟩
        refine wp_bnd _ (r_tell fu (by rw [emp_19]; omega) ((r_emp e1).mv d3.rp)) ?_
        intro _ s5 ⟨q1, q2, q3⟩
        exact wp_some ⟨rfl, q1, ((lo19 ((lo20 σ 0).trans e2) 0).trans d3.rp.lo).trans q2⟩
  · refine op_same h (-1) (fun σ hC => ?_) (fun σ hR => ?_)
    · unfold fX6_best
      refine wp_jn (iLt (fun h => wp_some ⟨rfl, CP.refl σ⟩) (fun _ => ?_) ha)
      exact iLe (fun _ => by omega) (fun h => wp_some ⟨rfl, CP.refl σ⟩) ha
    · unfold fX7_best
      refine wp_stf ?_
      rw [w32_id ha]
      refine wp_bnd _ (r_in fu (by omega) (by omega) (by omega)) ?_
      rintro x s' ⟨g0, g1, rfl⟩
      exact iNe0 (fun _ => by omega) (fun h => wp_some ⟨rfl, rp20 σ 0⟩)
end WHAT2
