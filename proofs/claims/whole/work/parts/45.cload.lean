/-! ===== the class: loads ===== -/
section CLOAD
variable {V σ σ' X : Mem} {c rid : Nat → Int} {l P p q s fu : Nat} {a x : Int}
def FrLd (σ σ' : Mem) : Prop := ∀ k j, (4 ≤ k ∧ k < 136 ∧ 8 ≤ (k - 4) % 11) ∨ (138 ≤ k ∧ k < 270 ∧ 8 ≤ (k - 138) % 11) ∨ (283 ≤ k ∧ k < 323 ∧ (k - 283) % 4 = 0 ∧ j = 6) ∨ σ' k j = σ k j
def ClsR (V : Mem) (rid : Nat → Int) (σ : Mem) : Prop := Tab σ ∧ σ 136 1 = V 328 9 ∧ σ 136 4 = V 328 11 ∧ (∀ s, s < 10 → σ (283 + 4 * s) 0 = rid s) ∧ (∀ l, l < nn V → LnAt V σ l (PL σ l))
def DatC (V : Mem) (c : Nat → Int) (σ : Mem) : Prop := (∀ s, s < 10 → σ (283 + 4 * s) 2 = c s ∧ TakS V c σ s) ∧ (∀ l, l < nn V → Rides V c σ l (PL σ l))
def LdC (V X σ : Mem) : Prop := (∀ l, l < nn V → ∀ p, p < 8 → σ (PL σ l + 8) p = X 356 (8 * l + p) ∧ σ (PL σ l + 9) p = X 357 (8 * l + p) ∧ σ (PL σ l + 10) p = X 358 (8 * l + p)) ∧ ∀ s, s < 10 → σ (283 + 4 * s) 6 = X 359 s
theorem FrLd.refl (σ : Mem) : FrLd σ σ := fun k j => Or.inr (Or.inr (Or.inr rfl))
theorem FrLd.at {k j : Nat} (h : FrLd σ σ') (g : ¬ ((4 ≤ k ∧ k < 136 ∧ 8 ≤ (k - 4) % 11) ∨ (138 ≤ k ∧ k < 270 ∧ 8 ≤ (k - 138) % 11) ∨ (283 ≤ k ∧ k < 323 ∧ (k - 283) % 4 = 0 ∧ j = 6))) : σ' k j = σ k j := by
  rcases h k j with e | e | e | e
  · exact absurd (Or.inl e) g
  · exact absurd (Or.inr (Or.inl e)) g
  · exact absurd (Or.inr (Or.inr e)) g
  · exact e
theorem FrLd.trans {σ'' : Mem} (h : FrLd σ σ') (g : FrLd σ' σ'') : FrLd σ σ'' := by
  intro k j
  rcases g k j with e | e | e | e
  · exact Or.inl e
  · exact Or.inr (Or.inl e)
  · exact Or.inr (Or.inr (Or.inl e))
  · rw [e]; exact h k j
theorem FrLd.tab (h : FrLd σ σ') (hT : Tab σ) : Tab σ' ∧ (∀ l, PL σ' l = PL σ l) ∧ (∀ l, QL σ' l = QL σ l) := tab_mv hT (h.at (by omega)) (h.at (by omega)) (fun j => h.at (by omega)) (fun j => h.at (by omega))
theorem FrLd.cp (h : FrLd σ σ') : CP σ σ' := by
  intro k j
  rcases h k j with e | e | e | e
  · left; omega
  · left; omega
  · left; omega
  · right; exact e
theorem ClsR.isL (h : ClsR V rid σ) (ok : OkN V) (hl : l < nn V) : isL (PL σ l) := h.1.2.1 l (by have := ok.n; omega)
theorem ClsR.apart {m : Nat} (h : ClsR V rid σ) (ok : OkN V) (hl : l < nn V) (hm : m < nn V) (e : l ≠ m) : PL σ l + 10 < PL σ m ∨ PL σ m + 10 < PL σ l := by
  have h1 := h.isL ok hl
  have h2 := h.isL ok hm
  have h3 : PL σ l ≠ PL σ m := fun g => e (h.1.2.2.2.1 l m (by have := ok.n; omega) (by have := ok.n; omega) g)
  omega
theorem ClsR.mv (h : ClsR V rid σ) (ok : OkN V) (g : FrLd σ σ') : ClsR V rid σ' := by
  obtain ⟨h1, h2, h3, h4, h5⟩ := h
  obtain ⟨t1, t2, t3⟩ := g.tab h1
  refine ⟨t1, by rw [g.at (by omega)]; exact h2, by rw [g.at (by omega)]; exact h3, fun s hs => by rw [g.at (by omega)]; exact h4 s hs, fun l hl => ?_⟩
  rw [t2]
  have hP := h1.2.1 l (by have := ok.n; omega)
  exact ln_mv (h5 l hl) hP (fun k j a b => g.at (by omega))
theorem TakS.mv (h : TakS V c σ s) (e1 : σ' (283 + 4 * s) 4 = σ (283 + 4 * s) 4) (e2 : σ' (283 + 4 * s) 5 = σ (283 + 4 * s) 5) (e3 : ∀ k j, 283 + 4 * s < k → k ≤ 283 + 4 * s + 2 → σ' k j = σ k j) : TakS V c σ' s := by
  refine ⟨by rw [e1]; exact h.1, by rw [e2]; exact h.2.1, fun i hi => ?_⟩
  rw [e3 _ _ (by omega) (by omega), e3 _ _ (by omega) (by omega)]
  exact h.2.2 i hi
theorem DatC.mv (h : DatC V c σ) (ok : OkN V) (hT : Tab σ) (g : FrLd σ σ') : DatC V c σ' := by
  have ht := g.tab hT
  refine ⟨fun s hs => ⟨by rw [g.at (by omega)]; exact (h.1 s hs).1, (h.1 s hs).2.mv (g.at (by omega)) (g.at (by omega)) (fun k j a b => g.at (by omega))⟩, fun l hl => ?_⟩
  rw [ht.2.1]
  have hP := hT.2.1 l (by have := ok.n; omega)
  exact (h.2 l hl).mv (fun k j a b => g.at (by omega))
theorem c_leftFrom (ok : OkN V) (hfu : 1000 < fu) (hl : l < nn V) (hL : LnAt V σ l P) (hR : Rides V c σ l P) (h1 : p < q) (h2 : q < ln V l) (h3 : alv V c l q = 1) (h4 : ∀ j, p < j → j < q → alv V c l j = 0) : wp (fX1_leftFrom fu P (p : Int) σ) (fun r σ' => r = (q : Int) ∧ σ = σ') := by
  have h8 := ok.len hl
  have e1 := hL.2.1
  unfold fX1_leftFrom
  refine wp_lt ?_
  refine for1 (f := fX1_leftFrom_L4 fu P _ _) q (fun i s2 => σ = s2 ∧ p < i) ?_ ?_ (i := p + 1) ⟨rfl, by omega⟩
  · rintro n i s2 hi ⟨rfl, hpi⟩ hrec
    rw [fX1_leftFrom_L4]
    refine iLe (fun h => by omega) (fun _ => ?_)
    refine rI i rfl (by omega) ?_
    rw [(hR i (by omega)).2.2, h4 i hpi hi]
    exact iEq0 (fun _ => hrec _ ⟨rfl, by omega⟩) (fun h => absurd rfl h)
  · rintro n s2 ⟨rfl, hpi⟩
    rw [fX1_leftFrom_L4]
    refine iLe (fun h => by omega) (fun _ => ?_)
    refine rI q rfl (by omega) ?_
    rw [(hR q (by omega)).2.2, h3]
    exact iEq0 (fun h => by omega) (fun _ => wp_some ⟨rfl, rfl⟩)
theorem c_carryL (hfu : 1000 < fu) (hpq : p < q) (hq : q < 8) : wp (fX1_carry fu P (p : Int) (q : Int) a σ) (fun _ σ' => ∀ k j, σ' k j = if (k = P + 9 ∧ j = p) ∨ (k = P + 10 ∧ j = q) ∨ (k = P + 8 ∧ p ≤ j ∧ j < q) then σ k j + a else σ k j) := by
  unfold fX1_carry
  refine rI p rfl (by omega) ?_
  refine wI p rfl (by omega) ?_
  refine rI q rfl (by omega) ?_
  refine wI q rfl (by omega) ?_
  refine for1 (f := fX1_carry_L23 fu P (q : Int) a _) q (fun i s2 => p ≤ i ∧ ∀ k j, s2 k j = if (k = P + 9 ∧ j = p) ∨ (k = P + 10 ∧ j = q) ∨ (k = P + 8 ∧ p ≤ j ∧ j < i) then σ k j + a else σ k j) ?_ ?_ (i := p) ⟨Nat.le_refl _, fun k j => ?_⟩
  · intro n i s2 hi ⟨hpi, hJ⟩ hrec
    rw [fX1_carry_L23]
    refine iLe (fun h => by omega) (fun _ => ?_)
    refine rI i rfl (by omega) ?_
    refine wI i rfl (by omega) ?_
    refine hrec _ ⟨by omega, fun k j => ?_⟩
    by_cases e : k = P + 8 ∧ j = i
    · rw [e.1, e.2, ms_eq, hJ, if_neg (by omega), if_pos (by omega)]
    · rw [mset_eq, if_neg e, hJ k j]
      by_cases e2 : (k = P + 9 ∧ j = p) ∨ (k = P + 10 ∧ j = q) ∨ (k = P + 8 ∧ p ≤ j ∧ j < i)
      · rw [if_pos e2, if_pos (by omega)]
      · rw [if_neg e2, if_neg (by omega)]
  · intro n s2 ⟨hpi, hJ⟩
    rw [fX1_carry_L23]
    refine iLe (fun _ => ?_) (fun h => by omega)
    exact wp_some hJ
  · by_cases e1 : k = P + 10 ∧ j = q
    · rw [e1.1, e1.2, ms_eq, ms_k (by omega), if_pos (by omega)]
    · rw [mset_eq, if_neg e1]
      by_cases e2 : k = P + 9 ∧ j = p
      · rw [e2.1, e2.2, ms_eq, if_pos (by omega)]
      · rw [mset_eq, if_neg e2, if_neg (by omega)]
theorem c_carry (ok : OkN V) (hfu : 1000 < fu) (hC : ClsR V rid σ) (hD : DatC V c σ) (hX : LdC V X σ) (hl : l < nn V) (h1 : p < q) (h2 : q < ln V l) (h3 : alv V c l q = 1) (h4 : ∀ j, p < j → j < q → alv V c l j = 0) :
    wp (fX2_carry fu (PL σ l) (p : Int) a σ) (fun _ σ' => LdC V (addX X l p q a (sp V l q)) σ' ∧ FrLd σ σ') := by
  have h8 := ok.len hl
  have hP := hC.isL ok hl
  have hL := hC.2.2.2.2 l hl
  have hst := ok.st hl h2
  unfold fX2_carry
  refine wp_bnd _ (c_leftFrom ok hfu hl hL (hD.2 l hl) h1 h2 h3 h4) ?_
  rintro r s' ⟨rfl, rfl⟩
  refine wp_jn ?_
  refine iEq (fun h => by omega) (fun _ => ?_)
  refine wp_bnd _ (c_carryL hfu h1 (by omega)) ?_
  intro _ s2 hs2
  refine rI q rfl (by omega) ?_
  rw [hs2, if_neg (by omega), hL.2.2.2.2.2.1 q h2]
  refine rS (sp V l q) hst.1.symm hst.2 ?_
  refine wp_stf ?_
  have hs6 : s2 (283 + 4 * sp V l q) 6 = σ (283 + 4 * sp V l q) 6 := by rw [hs2, if_neg (by omega)]
  have hfr : FrLd σ (mset s2 (283 + 4 * sp V l q) 6 (s2 (283 + 4 * sp V l q) 6 + a)) := by
    intro k j
    by_cases e : k = 283 + 4 * sp V l q ∧ j = 6
    · right; right; left; omega
    · rw [mset_eq, if_neg e, hs2]
      by_cases e2 : (k = PL σ l + 9 ∧ j = p) ∨ (k = PL σ l + 10 ∧ j = q) ∨ (k = PL σ l + 8 ∧ p ≤ j ∧ j < q)
      · omega
      · rw [if_neg e2]; simp
  have hPL := (hfr.tab hC.1).2.1
  refine wp_some ⟨⟨fun m hm t ht => ?_, fun t ht => ?_⟩, hfr⟩
  · rw [hPL]
    have hPm := hC.isL ok hm
    rw [ms_k (by omega), ms_k (by omega), ms_k (by omega), hs2, hs2, hs2]
    have hXm := hX.1 m hm t ht
    unfold addX
    by_cases e : m = l
    · subst e
      refine ⟨?_, ?_, ?_⟩
      · by_cases g : p ≤ t ∧ t < q
        · rw [if_pos (by omega), if_pos (by omega), hXm.1]
        · rw [if_neg (by omega), if_neg (by omega), hXm.1]
      · by_cases g : t = p
        · rw [if_pos (by omega), if_pos (by omega), hXm.2.1]
        · rw [if_neg (by omega), if_neg (by omega), hXm.2.1]
      · by_cases g : t = q
        · rw [if_pos (by omega), if_pos (by omega), hXm.2.2]
        · rw [if_neg (by omega), if_neg (by omega), hXm.2.2]
    · have hap := hC.apart ok hm hl e
      rw [if_neg (by omega), if_neg (by omega), if_neg (by omega), if_neg (by omega), if_neg (by omega), if_neg (by omega)]
      exact hXm
  · have hXt := hX.2 t ht
    unfold addX
    by_cases e : t = sp V l q
    · rw [e, ms_eq, hs6, if_pos (by omega), ← hX.2 _ hst.2]
    · rw [ms_k (by omega), hs2, if_neg (by omega), if_neg (by omega)]; exact hXt
theorem c_shareOf {i : Nat} (ok : OkN V) (hfu : 1000 < fu) (hC : ClsR V rid σ) (hD : DatC V c σ) (hb : ∀ s, -1 ≤ c s) (hs : s < 10) (hi : i < (tk V c s).length) (hx : 0 ≤ x ∧ x ≤ 30000000) : wp (fX2_shareOf fu (283 + 4 * s) (i : Int) x σ) (fun r σ' => r = shr V c s x i ∧ σ = σ') := by
  have hlen := tk_len (c := c) (s := s) ok
  have hfs := fs_b (c := c) (s := s) ok
  have hl := tk_line ok hb hi
  have hT := (hD.1 s hs).2
  have hn := ok.n
  have hfr := ok.fr (gtL (tk V c s) i).2
  unfold fX2_shareOf
  refine wp_rfd ?_
  refine rI i rfl (by omega) ?_
  rw [(hT.2.2 i hi).1]
  refine rR (gtL (tk V c s) i).2 rfl (by omega) ?_
  have e0 : σ (PL σ (gtL (tk V c s) i).2) 0 = frv V (gtL (tk V c s) i).2 := by rw [(hC.2.2.2.2 _ hl.1).1]; unfold frv; rw [if_pos hl.1]
  rw [show pl (σ (pl (σ 136 0)) (gtL (tk V c s) i).2) = PL σ (gtL (tk V c s) i).2 from rfl, e0, hT.2.1]
  rw [w32_sm (x := x) (by omega) (by omega), w32_sm (x := frv V _) (by omega) (by omega), w32_sm (x := fs V c s) (by omega) (by omega)]
  have hp0 : 0 ≤ x * frv V (gtL (tk V c s) i).2 := Int.mul_nonneg hx.1 (by omega)
  have hp1 : x * frv V (gtL (tk V c s) i).2 ≤ 30000000 * 60 := by
    have a1 : x * frv V (gtL (tk V c s) i).2 ≤ x * 60 := Int.mul_le_mul_of_nonneg_left hfr.2 hx.1
    omega
  rw [parts_pos fu σ ⟨by omega, by omega⟩ hp0 ⟨by omega, by omega⟩ (by omega), bnd_eq]
  exact wp_some ⟨rfl, rfl⟩
theorem c_boardAll (ok : OkN V) (hfu : 1000 < fu) (hC : ClsR V rid σ) (hD : DatC V c σ) (hX : LdC V X σ) (hb : ∀ s, -1 ≤ c s) (hs : s < 10) (hf : 1 ≤ fs V c s) (hx : 0 ≤ rid s + X 359 s ∧ rid s + X 359 s ≤ 30000000) :
    wp (fX2_boardAll fu (283 + 4 * s) σ) (fun _ σ' => LdC V (pas V c s (rid s + X 359 s) (tk V c s).length X) σ' ∧ FrLd σ σ') := by
  have hlen := tk_len (c := c) (s := s) ok
  have hT := (hD.1 s hs).2
  unfold fX2_boardAll
  refine wp_lt ?_
  rw [hC.2.2.2.1 s hs, hX.2 s hs]
  generalize hxe : rid s + X 359 s = x at *
  refine for2 (f := fX2_boardAll_L15 fu (283 + 4 * s) x _) (tk V c s).length (fun i a s2 => σ = s2 ∧ a = x - ssm V c s x i) ?_ ?_ (i := 0) ⟨rfl, by simp [ssm]⟩
  · rintro n i a s2 hi ⟨rfl, rfl⟩ hrec
    rw [fX2_boardAll_L15, hT.1]
    refine iLe (fun h => by omega) (fun _ => ?_)
    refine wp_bnd _ (c_shareOf ok hfu hC hD hb hs hi hx) ?_
    rintro r s2 ⟨rfl, rfl⟩
    refine wp_lt ?_
    refine hrec _ _ ⟨rfl, ?_⟩
    simp only [ssm]
    omega
  · rintro n a s2 ⟨rfl, rfl⟩
    rw [fX2_boardAll_L15, hT.1]
    refine iLe (fun _ => ?_) (fun h => by omega)
    refine for1 (f := fX2_boardAll_L44 fu (283 + 4 * s) x _ _) (tk V c s).length (fun i s2 => LdC V (pas V c s x i X) s2 ∧ FrLd σ s2) ?_ ?_ (i := 0) ⟨hX, FrLd.refl _⟩
    · intro n i s2 hi ⟨j1, j2⟩ hrec
      have hC2 := hC.mv ok j2
      have hD2 := hD.mv ok hC.1 j2
      have hT2 := (hD2.1 s hs).2
      have hl := tk_line ok hb hi
      have hlv := tk_lv ok hb hi
      have hn := ok.n
      have hln := ok.len hl.1
      rw [fX2_boardAll_L44, hT2.1]
      refine iLe (fun h => by omega) (fun _ => ?_)
      refine wp_bnd _ (c_shareOf ok hfu hC2 hD2 hb hs hi hx) ?_
      rintro r s3 ⟨rfl, rfl⟩
      refine wp_rfd ?_
      refine rI i rfl (by omega) ?_
      rw [(hT2.2.2 i hi).1]
      refine rR (gtL (tk V c s) i).2 rfl (by omega) ?_
      rw [show pl (s2 (pl (s2 136 0)) (gtL (tk V c s) i).2) = PL s2 (gtL (tk V c s) i).2 from rfl]
      refine rI i rfl (by omega) ?_
      rw [(hT2.2.2 i hi).2]
      refine wp_ji (fun y s' => y = amt V c s x i ∧ s2 = s') ?_ ?_
      · rintro y s' ⟨rfl, rfl⟩
        refine wp_bnd _ (c_carry ok hfu hC2 hD2 j1 hl.1 hlv.1 hlv.2.1 hlv.2.2.1 hlv.2.2.2.1) ?_
        intro _ s3 ⟨q1, q2⟩
        exact hrec s3 ⟨q1, j2.trans q2⟩
      · intro j hj
        refine iNe0 (fun h => ?_) (fun h => ?_)
        · exact hj _ _ ⟨by unfold amt; rw [if_neg (by omega)]; omega, rfl⟩
        · exact hj _ _ ⟨by unfold amt; rw [if_pos (by omega)], rfl⟩
    · intro n s2 ⟨j1, j2⟩
      have hT2 := ((hD.mv ok hC.1 j2).1 s hs).2
      rw [fX2_boardAll_L44, hT2.1]
      refine iLe (fun _ => ?_) (fun h => by omega)
      exact wp_some ⟨j1, j2⟩
def FrLo (σ σ' : Mem) : Prop := ∀ k j, (4 ≤ k ∧ k < 136 ∧ 8 ≤ (k - 4) % 11) ∨ (138 ≤ k ∧ k < 270 ∧ 8 ≤ (k - 138) % 11) ∨ (283 ≤ k ∧ k < 323 ∧ (k - 283) % 4 = 0 ∧ j = 6) ∨ k = 271 ∨ (k = 136 ∧ j = 11) ∨ σ' k j = σ k j
theorem c_spread (ok : OkN V) (hfu : 1000 < fu) (hC : ClsR V rid σ) (hD : DatC V c σ) (hb : CstOk V c) (hfix : ∀ s, s < 10 → Tv V c s = c s) (hr : ∀ s, s < 10 → 0 ≤ rid s ∧ rid s ≤ 9999) :
    wp (fX2_spreadLoads fu σ) (fun _ σ' => LdC V (lds V c rid (od V c).length) σ' ∧ FrLo σ σ' ∧ OrdC V c σ') := by
  have hn := ok.n
  have hb1 : ∀ s, -1 ≤ c s := fun s => (hb.1 s).1
  unfold fX2_spreadLoads
  refine for1 (f := fX2_spreadLoads_L2 fu _) (nn V) (fun i s2 => (∀ l, l < i → ∀ p, p < 8 → s2 (PL σ l + 8) p = 0 ∧ s2 (PL σ l + 9) p = 0 ∧ s2 (PL σ l + 10) p = 0) ∧ FrLd σ s2) ?_ ?_ (i := 0) ⟨fun l hl => by omega, FrLd.refl _⟩
  · intro n i s2 hi ⟨j1, j2⟩ hrec
    have hC2 := hC.mv ok j2
    have hPL := (j2.tab hC.1).2.1
    have hPi := hC.isL ok hi
    rw [fX2_spreadLoads_L2, hC2.2.1]
    refine iLe (fun h => by omega) (fun _ => ?_)
    refine wp_rfd ?_
    refine rR i rfl (by omega) ?_
    rw [show pl (s2 (pl (s2 136 0)) i) = PL s2 i from rfl, hPL]
    have hfg : wp (fX1_forgetLoads fu (PL σ i) s2) (fun _ s3 => (∀ p, p < 8 → s3 (PL σ i + 8) p = 0 ∧ s3 (PL σ i + 9) p = 0 ∧ s3 (PL σ i + 10) p = 0) ∧ ∀ k j, k = PL σ i + 8 ∨ k = PL σ i + 9 ∨ k = PL σ i + 10 ∨ s3 k j = s2 k j) := by
      unfold fX1_forgetLoads
      refine for1 (f := fX1_forgetLoads_L2 fu (PL σ i) _) 8 (fun t s3 => (∀ p, p < t → s3 (PL σ i + 8) p = 0 ∧ s3 (PL σ i + 9) p = 0 ∧ s3 (PL σ i + 10) p = 0) ∧ ∀ k j, k = PL σ i + 8 ∨ k = PL σ i + 9 ∨ k = PL σ i + 10 ∨ s3 k j = s2 k j) ?_ ?_ (i := 0) ⟨fun p hp => by omega, fun k j => by simp⟩
      · intro n t s3 ht ⟨g1, g2⟩ hrec2
        rw [fX1_forgetLoads_L2]
        refine iLe (fun h => by omega) (fun _ => ?_)
        refine wI t rfl (by omega) ?_
        refine wI t rfl (by omega) ?_
        refine wI t rfl (by omega) ?_
        refine hrec2 _ ⟨fun p hp => ?_, fun k j => ?_⟩
        · by_cases e : p = t
          · subst e
            simp (disch := omega) only [ms_eq, ms_k, and_self]
          · simp (disch := omega) only [ms_j]
            exact g1 p (by omega)
        · by_cases e : k = PL σ i + 8 ∨ k = PL σ i + 9 ∨ k = PL σ i + 10
          · omega
          · rw [ms_k (by omega), ms_k (by omega), ms_k (by omega)]; exact g2 k j
      · intro n s3 hJ
        rw [fX1_forgetLoads_L2]
        refine iLe (fun _ => ?_) (fun h => by omega)
        exact wp_some hJ
    refine wp_bnd _ hfg ?_
    intro _ s3 ⟨g1, g2⟩
    refine hrec s3 ⟨fun l hl p hp => ?_, fun k j => ?_⟩
    · by_cases e : l = i
      · rw [e]; exact g1 p hp
      · have hap := hC.apart ok (show l < nn V by omega) hi e
        have d := j1 l (by omega) p hp
        have b1 := g2 (PL σ l + 8) p
        have b2 := g2 (PL σ l + 9) p
        have b3 := g2 (PL σ l + 10) p
        refine ⟨by omega, by omega, by omega⟩
    · rcases g2 k j with e | e | e | e
      · omega
      · omega
      · omega
      · rw [e]; exact j2 k j
  · intro n s2 ⟨j1, j2⟩
    have hC2 := hC.mv ok j2
    have hPL2 := (j2.tab hC.1).2.1
    rw [fX2_spreadLoads_L2, hC2.2.1]
    refine iLe (fun _ => ?_) (fun h => by omega)
    refine for1 (f := fX2_spreadLoads_L27 fu _) 10 (fun i s3 => (∀ s, s < i → s3 (283 + 4 * s) 6 = 0) ∧ ∀ k j, (283 ≤ k ∧ k < 323 ∧ (k - 283) % 4 = 0 ∧ j = 6) ∨ s3 k j = s2 k j) ?_ ?_ (i := 0) ⟨fun l hl => by omega, fun k j => Or.inr rfl⟩
    · intro n i s3 hi ⟨g1, g2⟩ hrec
      rw [fX2_spreadLoads_L27]
      refine iLe (fun h => by omega) (fun _ => ?_)
      refine rS i rfl hi ?_
      refine wp_stf ?_
      refine hrec _ ⟨fun s hs => ?_, fun k j => ?_⟩
      · by_cases e : s = i
        · rw [e, ms_eq]
        · rw [ms_k (by omega)]; exact g1 s (by omega)
      · by_cases e : k = 283 + 4 * i ∧ j = 6
        · left; omega
        · rw [mset_eq, if_neg e]; exact g2 k j
    · intro n s3 ⟨g1, g2⟩
      rw [fX2_spreadLoads_L27]
      refine iLe (fun _ => ?_) (fun h => by omega)
      have hfr3 : FrLd σ s3 := by
        intro k j
        rcases g2 k j with e | e
        · right; right; left; exact e
        · rw [e]; exact j2 k j
      have hC3 := hC.mv ok hfr3
      have hD3 := hD.mv ok hC.1 hfr3
      have hPL3 := (hfr3.tab hC.1).2.1
      refine wp_bnd _ (c_order ok hfu hC3.2.2.1 hb.1 (fun s hs => (hD3.1 s hs).1)) ?_
      intro _ s4 ⟨o1, o2⟩
      -- from here on: s4
      have hT4 := tab_mv hC3.1 (σ' := s4) (by have := o2 136 0; omega) (by have := o2 1 2; omega) (fun j => by have := o2 3 j; omega) (fun j => by have := o2 137 j; omega)
      have hC4 : ClsR V rid s4 := by
        refine ⟨hT4.1, by rw [← hC3.2.1]; have := o2 136 1; omega, by rw [← hC3.2.2.1]; have := o2 136 4; omega, fun s hs => by rw [← hC3.2.2.2.1 s hs]; have := o2 (283 + 4 * s) 0; omega, fun l hl => ?_⟩
        rw [hT4.2.1]
        have hP := hC3.isL ok hl
        exact ln_mv (hC3.2.2.2.2 l hl) hP (fun k j a b => by have := o2 k j; omega)
      have hD4 : DatC V c s4 := by
        refine ⟨fun s hs => ⟨by rw [← (hD3.1 s hs).1]; have := o2 (283 + 4 * s) 2; omega, (hD3.1 s hs).2.mv (by have := o2 (283 + 4 * s) 4; omega) (by have := o2 (283 + 4 * s) 5; omega) (fun k j a b => by have := o2 k j; omega)⟩, fun l hl => ?_⟩
        rw [hT4.2.1]
        have hP := hC3.isL ok hl
        exact (hD3.2 l hl).mv (fun k j a b => by have := o2 k j; omega)
      have hX4 : LdC V (lds V c rid 0) s4 := by
        refine ⟨fun l hl p hp => ?_, fun s hs => ?_⟩
        · rw [hT4.2.1, hPL3]
          have hP := hC.isL ok hl
          have d := j1 l hl p hp
          have b1 := o2 (PL σ l + 8) p
          have b2 := o2 (PL σ l + 9) p
          have b3 := o2 (PL σ l + 10) p
          have e1 := g2 (PL σ l + 8) p
          have e2 := g2 (PL σ l + 9) p
          have e3 := g2 (PL σ l + 10) p
          simp only [lds]
          refine ⟨by omega, by omega, by omega⟩
        · have := g1 s hs
          have := o2 (283 + 4 * s) 6
          simp only [lds]
          omega
      have hodl := odk_len (V := V) (c := c) (k := 10)
      refine for1 (f := fX2_spreadLoads_L55 fu _) (od V c).length (fun i s5 => LdC V (lds V c rid i) s5 ∧ FrLd s4 s5) ?_ ?_ (i := 0) ⟨hX4, FrLd.refl _⟩ (by omega) (by unfold od; omega)
      · intro n i s5 hi ⟨q1, q2⟩ hrec
        have hC5 := hC4.mv ok q2
        have hD5 := hD4.mv ok hC4.1 q2
        have hm := od_mem hb hi
        have hfp := fs_pos ok hb hm.1 hm.2.1 hm.2.2 (hfix _ hm.1)
        have e11 : s5 136 11 = ((od V c).length : Int) := by rw [q2.at (by omega)]; exact o1.1
        have e271 : s5 271 i = ((gtL (od V c) i).2 : Int) := by rw [q2.at (by omega)]; exact o1.2 i hi
        have hod : (od V c).length ≤ 10 := hodl
        have hlb := lds_b ok hb hfix hr i (by omega) 359 (gtL (od V c) i).2
        have hbk := bk_le i (by omega)
        have hri := hr _ hm.1
        rw [fX2_spreadLoads_L55, e11]
        refine iLe (fun h => by omega) (fun _ => ?_)
        refine rI i rfl (by omega) ?_
        rw [e271]
        refine rS (gtL (od V c) i).2 rfl hm.1 ?_
        refine wp_bnd _ (c_boardAll ok hfu hC5 hD5 q1 hb1 hm.1 hfp.1 (by omega)) ?_
        intro _ s6 ⟨w1, w2⟩
        exact hrec s6 ⟨w1, q2.trans w2⟩
      · intro n s5 ⟨q1, q2⟩
        have e11 : s5 136 11 = ((od V c).length : Int) := by rw [q2.at (by omega)]; exact o1.1
        have hod : (od V c).length ≤ 10 := hodl
        rw [fX2_spreadLoads_L55, e11]
        refine iLe (fun _ => ?_) (fun h => by omega)
        refine wp_some ⟨q1, fun k j => ?_, e11, fun i hi => by rw [q2.at (by omega)]; exact o1.2 i hi⟩
        rcases q2 k j with e | e | e | e
        · exact Or.inl e
        · exact Or.inr (Or.inl e)
        · exact Or.inr (Or.inr (Or.inl e))
        · rcases o2 k j with e2 | e2 | e2
          · exact Or.inr (Or.inr (Or.inr (Or.inl e2)))
          · exact Or.inr (Or.inr (Or.inr (Or.inr (Or.inl e2))))
          · rcases hfr3 k j with e3 | e3 | e3 | e3
            · exact Or.inl e3
            · exact Or.inr (Or.inl e3)
            · exact Or.inr (Or.inr (Or.inl e3))
            · right; right; right; right; right; rw [e, e2, e3]
end CLOAD
