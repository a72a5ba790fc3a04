/-! ===== usual ===== -/
section USUAL
variable {V V' U σ σ' X W : Mem} {c rid : Nat → Int} {t k j l p q s P fu d i m : Nat} {a b v r A B x now : Int}
noncomputable def du (V : Mem) (s i : Nat) : Int := dur V (100 * (i : Int)) s
noncomputable def mnD (V : Mem) (s : Nat) : Nat → Int
  | 0 => 0
  | i + 1 => if i = 0 ∨ du V s i < mnD V s i then du V s i else mnD V s i
noncomputable def mxD (V : Mem) (s : Nat) : Nat → Int
  | 0 => 0
  | i + 1 => if mxD V s i < du V s i then du V s i else mxD V s i
theorem mnD_take (h : i = 0 ∨ du V s i < mnD V s i) : mnD V s (i + 1) = du V s i := if_pos h
theorem mnD_keep (h : ¬ (i = 0 ∨ du V s i < mnD V s i)) : mnD V s (i + 1) = mnD V s i := if_neg h
theorem mxD_take (h : mxD V s i < du V s i) : mxD V s (i + 1) = du V s i := if_pos h
theorem mxD_keep (h : ¬ mxD V s i < du V s i) : mxD V s (i + 1) = mxD V s i := if_neg h
theorem du_b (h : OkA t V) (hs : s < 10) (hc : 0 ≤ cv V s) (hi : i < 60) : -6000 ≤ du V s i ∧ du V s i ≤ 30000000 := by
  have hn : 0 ≤ (100 * (i : Int)) ∧ (100 * (i : Int)) ≤ 100000 := by omega
  have hM := mjv_is h hs hc hn
  have hinv := jr_inv h hs hc hn (mjv V (100 * (i : Int)) s) hM.2.2
  have hM9 := hM.1
  unfold du dur
  omega
theorem mnx_b (h : OkA t V) (hs : s < 10) (hc : 0 ≤ cv V s) : ∀ i, i ≤ 60 → (-6000 ≤ mnD V s i ∧ mnD V s i ≤ 30000000) ∧ (-6000 ≤ mxD V s i ∧ mxD V s i ≤ 30000000) ∧ -6000 * (i : Int) ≤ smf (du V s) i ∧ smf (du V s) i ≤ 30000000 * (i : Int) := by
  intro i
  induction i with
  | zero => intro _; simp [mnD, mxD, smf]
  | succ i ih =>
    intro hi
    have ih := ih (by omega)
    have hd := du_b h hs hc (show i < 60 by omega)
    refine ⟨?_, ?_, ?_⟩
    · by_cases g : i = 0 ∨ du V s i < mnD V s i
      · rw [mnD_take g]; exact hd
      · rw [mnD_keep g]; exact ih.1
    · by_cases g : mxD V s i < du V s i
      · rw [mxD_take g]; exact hd
      · rw [mxD_keep g]; exact ih.2.1
    · simp only [smf]; omega
theorem op_usual (h : OkA t V) (hfu : 1000 < fu) (ha : R32 a) (hb : R32 b) : Op t V (fX6_usual fu a b) (fX7_usual fu a b) := by
  have hnn := h.1.n
  by_cases hc : (0 ≤ a ∧ a < 10) ∧ 1 ≤ b ∧ b ≤ 60
  · obtain ⟨s, rfl⟩ := Int.eq_ofNat_of_zero_le hc.1.1
    obtain ⟨n, rfl⟩ := Int.eq_ofNat_of_zero_le (show 0 ≤ b by omega)
    have hs : s < 10 := by omega
    have hv := cv_b h.1 s
    by_cases hd : 0 ≤ cv V s
    · have hbn := mnx_b h hs hd n (by omega)
      refine ⟨(smf (du V s) n).tdiv (n : Int), row2 V (mnD V s n) (mxD V s n), (row2_ok h).up, fun σ hC => ?_, fun σ hR => ?_⟩
      · unfold fX6_usual
        refine wp_bnd _ (c_isStop fu σ ha) ?_
        rintro x s' ⟨h0, h1, rfl⟩
        refine wp_jn (iEq0 (fun h => by omega) (fun _ => ?_))
        refine iLt (fun h => by omega) (fun _ => ?_) hb
        refine iLe (fun _ => ?_) (fun h => by omega) hb
        refine wp_bnd _ (c_find h hfu hC) ?_
        intro _ s2 ⟨d1, d2, d3, d4⟩
        refine rS s rfl hs ?_
        rw [(d1.1 s hs).1]
        refine iNe (fun _ => ?_) (fun h => by omega)
        refine for4 (f := fX6_usual_L58 fu (s : Int) (n : Int) _) n (fun i x y z s' => x = smf (du V s) i ∧ ((i = 0 ∧ y = 2147483647) ∨ (1 ≤ i ∧ y = mnD V s i)) ∧ z = mxD V s i ∧ ∀ k j, (325 ≤ k ∧ k ≤ 327) ∨ s' k j = s2 k j) ?_ ?_ (i := 0) ⟨rfl, Or.inl ⟨rfl, rfl⟩, rfl, fun k j => Or.inr rfl⟩
        · rintro f i x y z s' hi ⟨rfl, j0, rfl, j2⟩ hrec
          have hCP : CP s2 s' := fun k j => by have := j2 k j; omega
          have hFD : FrD s2 s' := fun k j => by have := j2 k j; omega
          have hC' := d2.mv h.1 hCP
          have hD' : DatC V (cv V) s' := DatC.mvD (σ := s2) ⟨d1.1, d1.2.1⟩ h.1 d2.1.1 hFD
          have hdu := du_b h hs hd (show i < 60 by omega)
          have hbi := mnx_b h hs hd i (by omega)
          rw [fX6_usual_L58]
          refine iLe (fun h => by omega) (fun _ => ?_)
          refine wp_bnd _ (c_takes h hfu hC' hD' hs hd (now := 100 * (i : Int)) (by omega)) ?_
          rintro w s3 ⟨rfl, e2, e3⟩
          rw [show dur V (100 * (i : Int)) s = du V s i from rfl, w32_sm (x := du V s i) (by omega) (by omega)]
          have hyb : -6000 ≤ y ∧ y ≤ 2147483647 := by rcases j0 with e | e <;> omega
          refine wp_lt (wp_lt (wp_lt (hrec _ _ _ _ ⟨rfl, Or.inr ⟨by omega, ?_⟩, ?_, fun k j => ?_⟩)))
          · unfold min32
            rw [w32_sm (x := du V s i) (by omega) (by omega), w32_sm (x := y) (by omega) (by omega)]
            rcases j0 with ⟨e1, e2⟩ | ⟨e1, e2⟩
            · rw [mnD_take (Or.inl e1), if_pos (by omega)]
            · by_cases g : du V s i < mnD V s i
              · rw [mnD_take (Or.inr g), if_pos (by omega)]
              · rw [mnD_keep (by omega), if_neg (by omega), e2]
          · unfold max32
            rw [w32_sm (x := du V s i) (by omega) (by omega), w32_sm (x := mxD V s i) (by omega) (by omega)]
            by_cases g : mxD V s i < du V s i
            · rw [mxD_take g, if_pos g]
            · rw [mxD_keep g, if_neg g]
          · have a1 := e3 k j
            have a2 := j2 k j
            omega
        · rintro f x y z s' ⟨rfl, j0, rfl, j2⟩
          have hCP : CP s2 s' := fun k j => by have := j2 k j; omega
          rw [fX6_usual_L58]
          refine iLe (fun _ => ?_) (fun h => by omega)
          rcases j0 with e | ⟨_, rfl⟩
          · omega
          · rw [w32_sm (by omega) (by omega), w32_sm (by omega) (by omega)]
            refine wp_bnd _ (c_putTwo fu h.1 (d2.mv h.1 hCP)) ?_
            intro _ s3 ⟨q1, q2, q3⟩
            rw [w32_id hb, parts_eq fu s3 ⟨by omega, by omega⟩ ⟨by omega, by omega⟩ (by omega), bnd_eq]
            exact wp_some ⟨rfl, q1, (d3.trans hCP.hi).trans q2⟩
      · unfold fX7_usual
        refine wp_stf ?_
        refine wp_bnd _ (r_isStop fu _ ha) ?_
        rintro x s' ⟨h0, h1, rfl⟩
        refine wp_jn (iEq0 (fun h => by omega) (fun _ => ?_))
        rw [w32_id hb]
        refine wp_bnd _ (r_in fu (by omega) (by omega) (by omega)) ?_
        rintro x s' ⟨g0, g1, rfl⟩
        refine iNe0 (fun _ => ?_) (fun h => by omega)
        refine wp_bnd _ (r_lays h hfu hR.s20) ?_
        intro _ s2 ⟨d1, d2, d3, d4⟩
        refine rI s rfl hs ?_
        rw [(d1.1 s hs).1]
        refine jLe (fun _ => ?_) (fun h => by omega)
        refine for4 (f := fX7_usual_L57 fu (s : Int) (n : Int) _) n (fun i x y z s' => x = smf (du V s) i ∧ ((i = 0 ∧ y = 9223372036854775807) ∨ (1 ≤ i ∧ y = mnD V s i)) ∧ z = mxD V s i ∧ RefA V s' ∧ (∀ k j, 346 ≤ k → k ≤ 353 → s' k j = s2 k j) ∧ Lo s2 s') ?_ ?_ (i := 0) ⟨rfl, Or.inl ⟨rfl, rfl⟩, rfl, d2, fun k j _ _ => rfl, Lo.refl _⟩
        · rintro f i x y z s' hi ⟨rfl, j0, rfl, j1, j2, j3⟩ hrec
          have hdu := du_b h hs hd (show i < 60 by omega)
          have hbi := mnx_b h hs hd i (by omega)
          have hbU : (0 : Nat) = 1 → V 328 19 = 0 := fun e => by omega
          rw [fX7_usual_L57]
          refine iLe (fun h => by omega) (fun _ => ?_)
          rw [w32_sm (x := (i : Int)) (by omega) (by omega)]
          have hyb : -6000 ≤ y ∧ y ≤ 9223372036854775807 := by rcases j0 with e | e <;> omega
          have hDs : DatR V (cv V) s' := DatR.mv (σ := s2) ⟨d1.1, d1.2.1⟩ h.1 (fun k j b1 b2 => j2 k j b1 (by omega))
          refine wp_bnd _ (r_goes (b := 0) (now := 100 * (i : Int)) h hfu (AgN.refl V) hbU j1 hDs hs hd (by omega) (Or.inl rfl)) ?_
          rintro w s3 ⟨rfl, e2, e3, e4⟩
          rw [jrw_0] at e2
          rw [show dur V (100 * (i : Int)) s = du V s i from rfl]
          refine wp_lt (wp_lt (wp_lt (hrec _ _ _ _ ⟨rfl, Or.inr ⟨by omega, ?_⟩, ?_, e2, fun k j b1 b2 => (e3 k j b1 b2).trans (j2 k j b1 b2), j3.trans e4⟩)))
          · unfold min64
            rw [w64_sm (x := du V s i) (by omega) (by omega), w64_sm (x := y) (by omega) (by omega)]
            rcases j0 with ⟨g1, g2⟩ | ⟨g1, g2⟩
            · rw [mnD_take (Or.inl g1), if_pos (by omega)]
            · by_cases g : du V s i < mnD V s i
              · rw [mnD_take (Or.inr g), if_pos (by omega)]
              · rw [mnD_keep (by omega), if_neg (by omega), g2]
          · unfold max64
            rw [w64_sm (x := du V s i) (by omega) (by omega), w64_sm (x := mxD V s i) (by omega) (by omega)]
            by_cases g : mxD V s i < du V s i
            · rw [mxD_take g, if_neg (by omega)]
            · rw [mxD_keep g]
              split <;> omega
        · rintro f x y z s' ⟨rfl, j0, rfl, j1, j2, j3⟩
          rw [fX7_usual_L57]
          refine iLe (fun _ => ?_) (fun h => by omega)
          rcases j0 with e | ⟨_, rfl⟩
          · omega
          · refine wp_stf ?_
            refine wp_bnd _ (r_tell fu (by rw [emp_19]; omega) (r_emp j1)) ?_
            intro _ s3 ⟨q1, q2, q3⟩
            refine wp_bnd _ (r_tell fu (by rw [psh_19, emp_19]; omega) q1) ?_
            intro _ s4 ⟨w1, w2, w3⟩
            refine wp_dv64 ⟨by omega, by omega⟩ (by omega) ?_
            rw [div64_eq ⟨by omega, by omega⟩ ⟨by omega, by omega⟩ (by omega)]
            exact wp_some ⟨rfl, w1, (((lo20 σ 0).trans (lo19 (d3.trans j3) 0)).trans q2).trans w2⟩
    · refine op_same h (-2) (fun σ hC => ?_) (fun σ hR => ?_)
      · unfold fX6_usual
        refine wp_bnd _ (c_isStop fu σ ha) ?_
        rintro x s' ⟨h0, h1, rfl⟩
        refine wp_jn (iEq0 (fun h => by omega) (fun _ => ?_))
        refine iLt (fun h => by omega) (fun _ => ?_) hb
        refine iLe (fun _ => ?_) (fun h => by omega) hb
        refine wp_bnd _ (c_find h hfu hC) ?_
        intro _ s2 ⟨d1, d2, d3, d4⟩
        refine rS s rfl hs ?_
        rw [(d1.1 s hs).1]
        exact iNe (fun _ => by omega) (fun h => wp_some ⟨rfl, d4⟩)
      · unfold fX7_usual
        refine wp_stf ?_
        refine wp_bnd _ (r_isStop fu _ ha) ?_
        rintro x s' ⟨h0, h1, rfl⟩
        refine wp_jn (iEq0 (fun h => by omega) (fun _ => ?_))
        rw [w32_id hb]
        refine wp_bnd _ (r_in fu (by omega) (by omega) (by omega)) ?_
        rintro x s' ⟨g0, g1, rfl⟩
        refine iNe0 (fun _ => ?_) (fun h => by omega)
        refine wp_bnd _ (r_lays h hfu hR.s20) ?_
        intro _ s2 ⟨d1, d2, d3, d4⟩
        refine rI s rfl hs ?_
        rw [(d1.1 s hs).1]
        exact jLe (fun _ => by omega) (fun h => wp_some ⟨rfl, (rp20 σ 0).trans d4⟩)
  · refine op_same h (-1) (fun σ hC => ?_) (fun σ hR => ?_)
    · unfold fX6_usual
      refine wp_bnd _ (c_isStop fu σ ha) ?_
      rintro x s' ⟨h0, h1, rfl⟩
      refine wp_jn (iEq0 (fun h => wp_some ⟨rfl, CP.refl σ⟩) (fun _ => ?_))
      refine iLt (fun h => wp_some ⟨rfl, CP.refl σ⟩) (fun _ => ?_) hb
      exact iLe (fun _ => by omega) (fun h => wp_some ⟨rfl, CP.refl σ⟩) hb
    · unfold fX7_usual
      refine wp_stf ?_
      refine wp_bnd _ (r_isStop fu _ ha) ?_
      rintro x s' ⟨h0, h1, rfl⟩
      refine wp_jn (iEq0 (fun h => wp_some ⟨rfl, rp20 σ 0⟩) (fun _ => ?_))
      rw [w32_id hb]
      refine wp_bnd _ (r_in fu (by omega) (by omega) (by omega)) ?_
      rintro x s' ⟨g0, g1, rfl⟩
      exact iNe0 (fun _ => by omega) (fun h => wp_some ⟨rfl, rp20 σ 0⟩)
end USUAL
