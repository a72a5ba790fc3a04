/-! ===== the reference: loads ===== -/
section RLOAD
variable {V σ σ' X : Mem} {c rid : Nat → Int} {l P p q s fu : Nat} {a x : Int}
def FrM (σ σ' : Mem) : Prop := ∀ k j, k = 356 ∨ k = 357 ∨ k = 358 ∨ k = 359 ∨ σ' k j = σ k j
def DatR (V : Mem) (c : Nat → Int) (σ : Mem) : Prop := (∀ s, s < 10 → σ 346 s = c s ∧ SetS V c σ s) ∧ (∀ l, l < nn V → AbL V c σ l)
def LdR (X σ : Mem) : Prop := (∀ j, j < 96 → σ 356 j = X 356 j ∧ σ 357 j = X 357 j ∧ σ 358 j = X 358 j) ∧ ∀ s, s < 10 → σ 359 s = X 359 s
theorem FrM.refl (σ : Mem) : FrM σ σ := fun k j => by simp
theorem FrM.at {k j : Nat} (h : FrM σ σ') (g : k < 356 ∨ 359 < k) : σ' k j = σ k j := by have := h k j; omega
theorem FrM.trans {σ'' : Mem} (h : FrM σ σ') (g : FrM σ' σ'') : FrM σ σ'' := by
  intro k j
  have a := h k j
  have b := g k j
  omega
theorem Ref.mvM (h : Ref V σ) (g : FrM σ σ') : Ref V σ' := by
  refine ⟨fun j hj => ?_, fun k j h1 h2 => ?_⟩
  · rw [g.at (by omega)]; exact h.1 j hj
  · rw [g.at (by omega)]; exact h.2 k j h1 h2
theorem DatR.mv (h : DatR V c σ) (ok : OkN V) (e : ∀ k j, 346 ≤ k → k ≤ 352 → σ' k j = σ k j) : DatR V c σ' := by
  refine ⟨fun s hs => ⟨by rw [e _ _ (by omega) (by omega)]; exact (h.1 s hs).1, (h.1 s hs).2.mv ok (e _ _ (by omega) (by omega)) (e _ _ (by omega) (by omega)) (fun j _ _ => e _ _ (by omega) (by omega))⟩, fun l hl => ?_⟩
  exact (h.2 l hl).mv (fun j => e _ _ (by omega) (by omega)) (fun j => e _ _ (by omega) (by omega))
theorem r_leaves (ok : OkN V) (hfu : 1000 < fu) (hl : l < nn V) (hA : AbL V c σ l) (h1 : p < q) (h2 : q < ln V l) (h3 : alv V c l q = 1) (h4 : ∀ j, p < j → j < q → alv V c l j = 0) : wp (fX7_leaves fu (l : Int) (p : Int) σ) (fun r σ' => r = (q : Int) ∧ σ = σ') := by
  have h8 := ok.len hl
  have hn := ok.n
  unfold fX7_leaves
  refine wp_lt ?_
  refine for1 (f := fX7_leaves_L4 fu (l : Int) _) q (fun i s2 => σ = s2 ∧ p < i) ?_ ?_ (i := p + 1) ⟨rfl, by omega⟩
  · rintro n i s2 hi ⟨rfl, hpi⟩ hrec
    rw [fX7_leaves_L4]
    unfold fX7_at
    rw [bnd_eq]
    refine rI (8 * l + i) (by omega) (by omega) ?_
    rw [(hA i (by omega)).2, h4 i hpi hi]
    exact iNe0 (fun h => absurd rfl h) (fun _ => hrec _ ⟨rfl, by omega⟩)
  · rintro n s2 ⟨rfl, hpi⟩
    rw [fX7_leaves_L4]
    unfold fX7_at
    rw [bnd_eq]
    refine rI (8 * l + q) (by omega) (by omega) ?_
    rw [(hA q (by omega)).2, h3]
    exact iNe0 (fun _ => wp_some ⟨rfl, rfl⟩) (fun h => by omega)
theorem shr_div (ok : OkN V) (hf : 1 ≤ fs V c s) (hx : 0 ≤ x ∧ x ≤ 30000000) (i : Nat) : div64 (x * frv V (gtL (tk V c s) i).2) (fs V c s) = shr V c s x i := by
  have hfs := fs_b (c := c) (s := s) ok
  have hfr := ok.fr (gtL (tk V c s) i).2
  have hp0 : 0 ≤ x * frv V (gtL (tk V c s) i).2 := Int.mul_nonneg hx.1 (by omega)
  have hp1 : x * frv V (gtL (tk V c s) i).2 ≤ 30000000 * 60 := by
    have a1 : x * frv V (gtL (tk V c s) i).2 ≤ x * 60 := Int.mul_le_mul_of_nonneg_left hfr.2 hx.1
    omega
  rw [div64_eq ⟨by omega, by omega⟩ ⟨by omega, by omega⟩ hf, Int.tdiv_eq_ediv_of_nonneg hp0]
  rfl
theorem r_passesOn (ok : OkN V) (hfu : 1000 < fu) (hR : Ref V σ) (hrid : ∀ s, s < 10 → σ 338 s = rid s) (hD : DatR V c σ) (hX : LdR X σ) (hb : ∀ s, -1 ≤ c s) (hs : s < 10) (hf : 1 ≤ fs V c s) (hr : 0 ≤ rid s ∧ rid s ≤ 9999) (hx : 0 ≤ rid s + X 359 s ∧ rid s + X 359 s ≤ 30000000) :
    wp (fX7_passesOn fu (s : Int) σ) (fun _ σ' => LdR (pas V c s (rid s + X 359 s) (tk V c s).length X) σ' ∧ FrM σ σ') := by
  have hlen := tk_len (c := c) (s := s) ok
  have hfs := fs_b (c := c) (s := s) ok
  have hn := ok.n
  have hT := (hD.1 s hs).2
  unfold fX7_passesOn
  refine rI s rfl hs ?_
  refine rI s rfl hs ?_
  refine wp_lt ?_
  rw [hrid s hs, hX.2 s hs, w32_sm (x := rid s) (by omega) (by omega)]
  generalize hxe : rid s + X 359 s = x at *
  have hfrv : ∀ i, i < (tk V c s).length → V 329 (gtL (tk V c s) i).2 = frv V (gtL (tk V c s) i).2 := fun i hi => by unfold frv; rw [if_pos (tk_line ok hb hi).1]
  refine for2 (f := fX7_passesOn_L21 fu (s : Int) x _) (tk V c s).length (fun i a s2 => σ = s2 ∧ a = x - ssm V c s x i) ?_ ?_ (i := 0) ⟨rfl, by simp [ssm]⟩
  · rintro n i a s2 hi ⟨rfl, rfl⟩ hrec
    have hl := tk_line ok hb hi
    have hfr := ok.fr (gtL (tk V c s) i).2
    rw [fX7_passesOn_L21]
    refine rI s rfl hs ?_
    rw [hT.1]
    refine iLe (fun h => by omega) (fun _ => ?_)
    refine rI (12 * s + i) (by omega) (by omega) ?_
    rw [hT.2.2 i hi]
    refine rI (gtL (tk V c s) i).2 rfl (by omega) ?_
    rw [hR.2 329 _ (by omega) (by omega), hfrv i hi]
    refine rI s rfl hs ?_
    rw [hT.2.1, w32_sm (x := fs V c s) (by omega) (by omega), w32_sm (x := frv V _) (by omega) (by omega)]
    refine wp_dv64 ⟨by omega, by omega⟩ (by omega) ?_
    refine wp_lt ?_
    rw [shr_div ok hf hx]
    refine hrec _ _ ⟨rfl, ?_⟩
    simp only [ssm]
    omega
  · rintro n a s2 ⟨rfl, rfl⟩
    rw [fX7_passesOn_L21]
    refine rI s rfl hs ?_
    rw [hT.1]
    refine iLe (fun _ => ?_) (fun h => by omega)
    refine for1 (f := fX7_passesOn_L74 fu (s : Int) x _ _) (tk V c s).length (fun i s2 => LdR (pas V c s x i X) s2 ∧ FrM σ s2) ?_ ?_ (i := 0) ⟨hX, FrM.refl _⟩
    · intro n i s2 hi ⟨j1, j2⟩ hrec
      have hR2 := hR.mvM j2
      have hD2 := hD.mv (σ' := s2) ok (fun k j _ _ => j2.at (by omega))
      have hT2 := (hD2.1 s hs).2
      have hl := tk_line ok hb hi
      have hlv := tk_lv ok hb hi
      have hln := ok.len hl.1
      have hfr := ok.fr (gtL (tk V c s) i).2
      have hfrvi := hfrv i hi
      have hT2i := hT2.2.2 i hi
      have hst := ok.st hl.1 hlv.2.1
      have hshr := shr_div ok hf hx i
      have hdef : pas V c s x (i + 1) X = addX (pas V c s x i X) (gtL (tk V c s) i).2 (plc V (gtL (tk V c s) i).2 s) (lvq V c (gtL (tk V c s) i).2 (plc V (gtL (tk V c s) i).2 s)) (amt V c s x i) (sp V (gtL (tk V c s) i).2 (lvq V c (gtL (tk V c s) i).2 (plc V (gtL (tk V c s) i).2 s))) := rfl
      rw [fX7_passesOn_L74]
      refine rI s rfl hs ?_
      rw [hT2.1]
      refine iLe (fun h => by omega) (fun _ => ?_)
      refine rI (12 * s + i) (by omega) (by omega) ?_
      rw [hT2i]
      have hpo := r_placeOf (s := s) ok hfu hR2 hl.1 hs
      rw [if_pos (by omega)] at hpo
      refine wp_bnd _ hpo ?_
      rintro r s3 ⟨rfl, rfl⟩
      refine wp_bnd _ (r_leaves ok hfu hl.1 (hD2.2 _ hl.1) hlv.1 hlv.2.1 hlv.2.2.1 hlv.2.2.2.1) ?_
      rintro r s3 ⟨rfl, rfl⟩
      generalize hle : (gtL (tk V c s) i).2 = l at *
      generalize hpe : plc V l s = p at *
      generalize hqe : lvq V c l p = q at *
      refine rI l rfl (by omega) ?_
      rw [hR2.2 329 _ (by omega) (by omega), hfrvi]
      refine rI s rfl hs ?_
      rw [hT2.2.1, w32_sm (x := fs V c s) (by omega) (by omega), w32_sm (x := frv V _) (by omega) (by omega)]
      refine wp_dv64 ⟨by omega, by omega⟩ (by omega) ?_
      rw [hshr]
      refine wp_ji (fun y s' => shr V c s x i + y = amt V c s x i ∧ s2 = s') ?_ ?_
      · rintro y s' ⟨hy, rfl⟩
        refine wp_lt ?_
        rw [hy]
        generalize hae : amt V c s x i = a at *
        unfold fX7_at
        rw [bnd_eq]
        refine rI (8 * l + p) (by omega) (by omega) ?_
        refine wI (8 * l + p) (by omega) (by omega) ?_
        rw [bnd_eq]
        refine rI (8 * l + q) (by omega) (by omega) ?_
        refine wI (8 * l + q) (by omega) (by omega) ?_
        rw [bnd_eq]
        refine rI (8 * l + q) (by omega) (by omega) ?_
        rw [ms_k (by omega), ms_k (by omega), ms_k (by omega), hR2.2 331 _ (by omega) (by omega)]
        refine rI (sp V l q) hst.1.symm hst.2 ?_
        refine wI (sp V l q) hst.1.symm hst.2 ?_
        refine for1 (f := fX7_passesOn_L210 fu _ _ _ _ (l : Int) (q : Int) a _) q (fun t s3 => p ≤ t ∧ (∀ k j, s3 k j = if (k = 357 ∧ j = 8 * l + p) ∨ (k = 358 ∧ j = 8 * l + q) ∨ (k = 359 ∧ j = sp V l q) ∨ (k = 356 ∧ 8 * l + p ≤ j ∧ j < 8 * l + t) then s2 k j + a else s2 k j)) ?_ ?_ (i := p) ⟨Nat.le_refl _, fun k j => ?_⟩
        · intro n t s3 ht ⟨hpt, hJ⟩ hrec2
          rw [fX7_passesOn_L210]
          refine iLe (fun h => by omega) (fun _ => ?_)
          unfold fX7_at
          rw [bnd_eq]
          refine rI (8 * l + t) (by omega) (by omega) ?_
          refine wI (8 * l + t) (by omega) (by omega) ?_
          refine hrec2 _ ⟨by omega, fun k j => ?_⟩
          by_cases e : k = 356 ∧ j = 8 * l + t
          · rw [e.1, e.2, ms_eq, hJ, if_neg (by omega), if_pos (by omega)]
          · rw [mset_eq, if_neg e, hJ k j]
            by_cases e2 : (k = 357 ∧ j = 8 * l + p) ∨ (k = 358 ∧ j = 8 * l + q) ∨ (k = 359 ∧ j = sp V l q) ∨ (k = 356 ∧ 8 * l + p ≤ j ∧ j < 8 * l + t)
            · rw [if_pos e2, if_pos (by omega)]
            · rw [if_neg e2, if_neg (by omega)]
        · intro n s3 ⟨hpt, hJ⟩
          rw [fX7_passesOn_L210]
          refine iLe (fun _ => ?_) (fun h => by omega)
          refine hrec s3 ⟨?_, fun k j => ?_⟩
          · rw [hdef]
            refine ⟨fun j hj => ?_, fun t ht => ?_⟩
            · have hXj := j1.1 j hj
              rw [hJ, hJ, hJ]
              unfold addX
              refine ⟨?_, ?_, ?_⟩
              · by_cases g : 8 * l + p ≤ j ∧ j < 8 * l + q
                · rw [if_pos (by omega), if_pos (by omega), hXj.1]
                · rw [if_neg (by omega), if_neg (by omega), hXj.1]
              · by_cases g : j = 8 * l + p
                · rw [if_pos (by omega), if_pos (by omega), hXj.2.1]
                · rw [if_neg (by omega), if_neg (by omega), hXj.2.1]
              · by_cases g : j = 8 * l + q
                · rw [if_pos (by omega), if_pos (by omega), hXj.2.2]
                · rw [if_neg (by omega), if_neg (by omega), hXj.2.2]
            · have hXt := j1.2 t ht
              rw [hJ]
              unfold addX
              by_cases g : t = sp V l q
              · rw [if_pos (by omega), if_pos (by omega), hXt]
              · rw [if_neg (by omega), if_neg (by omega), hXt]
          · by_cases e : k = 356 ∨ k = 357 ∨ k = 358 ∨ k = 359
            · omega
            · rw [hJ, if_neg (by omega)]; exact j2 k j
        · by_cases e3 : k = 359 ∧ j = sp V l q
          · rw [e3.1, e3.2, ms_eq, ms_k (by omega), ms_k (by omega), if_pos (by omega)]
          · rw [mset_eq, if_neg e3]
            by_cases e1 : k = 358 ∧ j = 8 * l + q
            · rw [e1.1, e1.2, ms_eq, if_pos (by omega)]
            · rw [mset_eq, if_neg e1]
              by_cases e2 : k = 357 ∧ j = 8 * l + p
              · rw [e2.1, e2.2, ms_eq, if_pos (by omega)]
              · rw [mset_eq, if_neg e2, if_neg (by omega)]
      · intro j hj
        refine iNe0 (fun h => ?_) (fun h => ?_)
        · exact hj _ _ ⟨by unfold amt; rw [if_neg (by omega)], rfl⟩
        · exact hj _ _ ⟨by unfold amt; rw [if_pos (by omega)], rfl⟩
    · intro n s2 ⟨j1, j2⟩
      have hT2 := ((hD.mv (σ' := s2) ok (fun k j _ _ => j2.at (by omega))).1 s hs).2
      rw [fX7_passesOn_L74]
      refine rI s rfl hs ?_
      rw [hT2.1]
      refine iLe (fun _ => ?_) (fun h => by omega)
      exact wp_some ⟨j1, j2⟩
theorem r_laysLoads (ok : OkN V) (hfu : 1000 < fu) (hR : Ref V σ) (h37 : V 328 37 = -1) (hrid : ∀ s, s < 10 → σ 338 s = rid s) (hr : ∀ s, s < 10 → 0 ≤ rid s ∧ rid s ≤ 9999) :
    wp (fX7_laysLoads fu σ) (fun _ σ' => LdR (lds V (cv V) rid (od V (cv V)).length) σ' ∧ CostR V σ' ∧ OrdR V (cv V) σ' ∧ RP σ σ') := by
  have hb := cv_ok ok
  have hfix : ∀ s, s < 10 → Tv V (cv V) s = cv V s := fun s hs => cv_fix ok hs
  unfold fX7_laysLoads
  refine wp_bnd _ (r_laysCosts ok hfu hR (by omega)) ?_
  intro _ s1 ⟨a1, a2⟩
  have hR1 := hR.mv a2
  refine wp_bnd _ (r_order ok hfu (hR1.j (by omega)) hb.1 (fun s hs => (a1.1 s hs).1)) ?_
  intro _ s2 ⟨o1, o2⟩
  refine for1 (f := fX7_laysLoads_L10 fu _) 96 (fun i s3 => (∀ j, j < i → s3 356 j = 0 ∧ s3 357 j = 0 ∧ s3 358 j = 0) ∧ FrM s2 s3) ?_ ?_ (i := 0) ⟨fun j hj => by omega, FrM.refl _⟩
  · intro n i s3 hi ⟨g1, g2⟩ hrec
    rw [fX7_laysLoads_L10]
    refine iLe (fun h => by omega) (fun _ => ?_)
    refine wI i rfl hi ?_
    refine wI i rfl hi ?_
    refine wI i rfl hi ?_
    refine hrec _ ⟨fun j hj => ?_, fun k j => ?_⟩
    · by_cases e : j = i
      · subst e
        simp (disch := omega) only [ms_eq, ms_k, and_self]
      · simp (disch := omega) only [ms_j]
        exact g1 j (by omega)
    · by_cases e : k = 356 ∨ k = 357 ∨ k = 358
      · omega
      · rw [ms_k (by omega), ms_k (by omega), ms_k (by omega)]; exact g2 k j
  · intro n s3 ⟨g1, g2⟩
    rw [fX7_laysLoads_L10]
    refine iLe (fun _ => ?_) (fun h => by omega)
    refine for1 (f := fX7_laysLoads_L45 fu _) 10 (fun i s4 => (∀ j, j < i → s4 359 j = 0) ∧ ∀ k j, k = 359 ∨ s4 k j = s3 k j) ?_ ?_ (i := 0) ⟨fun j hj => by omega, fun k j => Or.inr rfl⟩
    · intro n i s4 hi ⟨q1, q2⟩ hrec
      rw [fX7_laysLoads_L45]
      refine iLe (fun h => by omega) (fun _ => ?_)
      refine wI i rfl hi ?_
      refine hrec _ ⟨fun j hj => ?_, fun k j => ?_⟩
      · by_cases e : j = i
        · rw [e, ms_eq]
        · rw [ms_j e]; exact q1 j (by omega)
      · by_cases e : k = 359
        · exact Or.inl e
        · rw [ms_k e]; exact q2 k j
    · intro n s4 ⟨q1, q2⟩
      rw [fX7_laysLoads_L45]
      refine iLe (fun _ => ?_) (fun h => by omega)
      have hfr4 : FrM s2 s4 := by
        intro k j
        rcases q2 k j with e | e
        · omega
        · rw [e]; exact g2 k j
      have hfr14 : ∀ k j, k = 354 ∨ (k = 328 ∧ j = 40) ∨ k = 356 ∨ k = 357 ∨ k = 358 ∨ k = 359 ∨ s4 k j = s1 k j := by
        intro k j
        have a := hfr4 k j
        have b := o2 k j
        omega
      have hR4 : Ref V s4 := ⟨fun j hj => by rw [← hR1.1 j hj]; have := hfr14 328 j; omega, fun k j h1 h2 => by rw [← hR1.2 k j h1 h2]; have := hfr14 k j; omega⟩
      have hD4 : DatR V (cv V) s4 := DatR.mv (σ := s1) ⟨a1.1, a1.2.1⟩ ok (fun k j _ _ => by have := hfr14 k j; omega)
      have hrid4 : ∀ s, s < 10 → s4 338 s = rid s := fun s hs => by rw [← hrid s hs, ← a2.at (k := 338) (j := s) (by omega)]; have := hfr14 338 s; omega
      have hX4 : LdR (lds V (cv V) rid 0) s4 := by
        simp only [lds]
        refine ⟨fun j hj => ?_, q1⟩
        have := g1 j hj
        have e1 := q2 356 j
        have e2 := q2 357 j
        have e3 := q2 358 j
        refine ⟨?_, ?_, ?_⟩ <;> simp only [] <;> omega
      have hodl : (od V (cv V)).length ≤ 10 := odk_len (V := V) (c := cv V) (k := 10)
      refine for1 (f := fX7_laysLoads_L66 fu _) (od V (cv V)).length (fun i s5 => LdR (lds V (cv V) rid i) s5 ∧ FrM s4 s5) ?_ ?_ (i := 0) ⟨hX4, FrM.refl _⟩
      · intro n i s5 hi ⟨w1, w2⟩ hrec
        have hm := od_mem hb hi
        have hfp := fs_pos ok hb hm.1 hm.2.1 hm.2.2 (hfix _ hm.1)
        have e40 : s5 328 40 = ((od V (cv V)).length : Int) := by rw [w2.at (by omega), hfr4.at (by omega)]; exact o1.1
        have e354 : s5 354 i = ((gtL (od V (cv V)) i).2 : Int) := by rw [w2.at (by omega), hfr4.at (by omega)]; exact o1.2 i hi
        have hlb := lds_b ok hb hfix hr i (by omega) 359 (gtL (od V (cv V)) i).2
        have hbk := bk_le i (by omega)
        have hri := hr _ hm.1
        rw [fX7_laysLoads_L66, e40]
        refine iLe (fun h => by omega) (fun _ => ?_)
        refine rI i rfl (by omega) ?_
        rw [e354]
        refine wp_bnd _ (r_passesOn ok hfu (hR4.mvM w2) (fun s hs => by rw [w2.at (by omega)]; exact hrid4 s hs) (hD4.mv (σ' := s5) ok (fun k j _ _ => w2.at (by omega))) w1 (fun s => (hb.1 s).1) hm.1 hfp.1 hri (by omega)) ?_
        intro _ s6 ⟨z1, z2⟩
        exact hrec s6 ⟨z1, w2.trans z2⟩
      · intro n s5 ⟨w1, w2⟩
        have e40 : s5 328 40 = ((od V (cv V)).length : Int) := by rw [w2.at (by omega), hfr4.at (by omega)]; exact o1.1
        rw [fX7_laysLoads_L66, e40]
        refine iLe (fun _ => ?_) (fun h => by omega)
        have hD5 := hD4.mv (σ' := s5) ok (fun k j _ _ => w2.at (by omega))
        refine wp_some ⟨w1, ⟨hD5.1, hD5.2, ?_⟩, ⟨e40, fun i hi => by rw [w2.at (by omega), hfr4.at (by omega)]; exact o1.2 i hi⟩, fun k j => ?_⟩
        · rw [← a1.2.2, w2.at (by omega)]; have := hfr14 328 36; omega
        · rcases a2 k j with e | e
          · exact Or.inl e
          · by_cases g : scrR k j
            · exact Or.inl g
            · right
              rw [← e]
              have x1 := w2 k j
              have x2 := hfr14 k j
              omega
end RLOAD
