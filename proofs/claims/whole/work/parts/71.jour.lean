/-! ===== journeys ===== -/
section JOUR
variable {V V' U σ σ' X W : Mem} {c rid : Nat → Int} {t k j l p q s P fu d i m : Nat} {a b v r A B x now : Int}
noncomputable def jl (V : Mem) (now : Int) (s i : Nat) : Nat := jln V (jr V now s i).2 (jr V now s i).1
def KpC (V : Mem) (now : Int) (s i : Nat) (σ : Mem) : Prop := σ 325 2 = (if i < 8 then (i : Int) else 8) ∧ ∀ j, j < i → j < 8 → σ 326 j = (jl V now s j : Int) ∧ σ 327 j = ((jr V now s (j + 1)).2 : Int)
theorem c_keepRide (hK : KpC V now s i σ) : wp (fX0_keepRide fu (jl V now s i : Int) ((jr V now s (i + 1)).2 : Int) σ) (fun _ σ' => KpC V now s (i + 1) σ' ∧ ∀ k j, (325 ≤ k ∧ k ≤ 327) ∨ σ' k j = σ k j) := by
  unfold fX0_keepRide
  refine wp_jn ?_
  by_cases h : i < 8
  · have e := hK.1
    rw [if_pos h] at e
    rw [e]
    refine iLe (fun g => by omega) (fun _ => ?_)
    refine wI i rfl h (wI i ?_ h (wp_stf ?_))
    · rw [ms_k (by omega)]; exact e
    · rw [ms_k (by omega), ms_k (by omega), e]
      refine wp_some ⟨⟨?_, fun j h1 h2 => ?_⟩, fun k j => ?_⟩
      · rw [ms_eq]
        split <;> omega
      · by_cases e2 : j = i
        · rw [e2]; exact ⟨by rw [ms_k (by omega), ms_k (by omega), ms_eq], by rw [ms_k (by omega), ms_eq]⟩
        · have hx := hK.2 j (by omega) h2
          exact ⟨by rw [ms_k (by omega), ms_k (by omega), ms_j e2]; exact hx.1, by rw [ms_k (by omega), ms_j e2, ms_k (by omega)]; exact hx.2⟩
      · by_cases e2 : 325 ≤ k ∧ k ≤ 327
        · exact Or.inl e2
        · rw [ms_k (by omega), ms_k (by omega), ms_k (by omega)]; exact Or.inr rfl
  · have e := hK.1
    rw [if_neg h] at e
    rw [e]
    refine iLe (fun _ => ?_) (fun g => by omega)
    refine wp_some ⟨⟨by rw [if_neg (by omega)]; exact e, fun j h1 h2 => hK.2 j (by omega) h2⟩, fun k j => Or.inr rfl⟩
theorem c_takes (h : OkA t V) (hfu : 1000 < fu) (hC : ClsA V σ) (hD : DatC V (cv V) σ) (hs : s < 10) (hc : 0 ≤ cv V s) (hn : 0 ≤ now ∧ now ≤ 100000) : wp (fX0_takes fu (s : Int) now σ) (fun r σ' => r = dur V now s ∧ KpC V now s (mjv V now s) σ' ∧ ∀ k j, (325 ≤ k ∧ k ≤ 327) ∨ σ' k j = σ k j) := by
  have ok := h.1
  have hgl := ok.go
  have hnn := ok.n
  have hM := mjv_is h hs hc hn
  generalize hm : mjv V now s = m at *
  unfold fX0_takes
  refine wp_stf (wp_jn ?_)
  refine for3 (f := fX0_takes_L14 fu now _ _) m (fun i x y s' => x = (jr V now s i).1 ∧ y = ((jr V now s i).2 : Int) ∧ KpC V now s i s' ∧ ∀ k j, (325 ≤ k ∧ k ≤ 327) ∨ s' k j = σ k j) ?_ ?_ (i := 0) ⟨rfl, rfl, ⟨by rw [ms_eq]; rfl, fun j hj => by omega⟩, fun k j => ?_⟩ (by omega) (by have := hM.1; omega)
  · rintro n i x y s' hi ⟨rfl, rfl, j1, j2⟩ hrec
    have hne := hM.2.2 i hi
    have hinv := jr_inv h hs hc hn i (fun j hj => hM.2.2 j (by omega))
    have hM9 := hM.1
    have hCP : CP σ s' := fun k j => by have := j2 k j; omega
    have hFD : FrD σ s' := fun k j => by have := j2 k j; omega
    have hC' := hC.mv ok hCP
    have hD' := hD.mvD ok hC.1.1 hFD
    have hnx : jr V now s (i + 1) = jnx V (jr V now s i).1 (jr V now s i).2 := rfl
    have hjl : jl V now s i = jln V (jr V now s i).2 (jr V now s i).1 := rfl
    have hxx := jnx_is h hinv.1 hne hinv.2.1 hinv.2.2.2.1
    have hnow : (jr V now s i).1 ≤ 30000000 := by omega
    have hkr := c_keepRide (fu := fu) (i := i) (s := s) (V := V) (now := now) (σ := s') j1
    generalize (jr V now s i).1 = nw at *
    generalize (jr V now s i).2 = z at *
    have hb := fun s => (cv_b ok s).1
    have hq := hxx.1
    have hl : jln V z nw < nn V ∧ V 337 (jln V z nw) = 0 ∧ plc V (jln V z nw) z + 1 < ln V (jln V z nw) ∧ _ := tk_line ok hb hq
    have hlv : plc V (jln V z nw) z < lvq V (cv V) (jln V z nw) (plc V (jln V z nw) z) ∧ lvq V (cv V) (jln V z nw) (plc V (jln V z nw) z) < ln V (jln V z nw) ∧ alv V (cv V) (jln V z nw) (lvq V (cv V) (jln V z nw) (plc V (jln V z nw) z)) = 1 ∧ (∀ j, plc V (jln V z nw) z < j → j < lvq V (cv V) (jln V z nw) (plc V (jln V z nw) z) → alv V (cv V) (jln V z nw) j = 0) ∧ _ := tk_lv ok hb hq
    have hT := (hD'.1 z hinv.1).2
    have hTq : s' (283 + 4 * z + 1) (foq V (cv V) z nw) = (jln V z nw : Int) ∧ s' (283 + 4 * z + 2) (foq V (cv V) z nw) = (plc V (jln V z nw) z : Int) := hT.2.2 _ hq
    have hlen := tk_len (c := cv V) (s := z) ok
    have h8 := ok.len hl.1
    have hL := hC'.1.ln hl.1
    have hst := ok.st hl.1 hlv.2.1
    rw [fX0_takes_L14, hC'.1.2.2.2.1]
    refine iLe (fun h => by omega) (fun _ => ?_)
    refine iEq (fun h => by omega) (fun _ => ?_)
    refine rS z rfl hinv.1 ?_
    refine wp_bnd _ (c_firstOf ok hfu hC'.1 hD' hb hinv.1 (by omega)) ?_
    rintro w s2 ⟨rfl, rfl⟩
    rw [(foq_is (V := V) (c := cv V) (s := z) (now := nw) (by omega)).2.1]
    refine wp_ji (fun w s2 => w = (lvq V (cv V) (jln V z nw) (plc V (jln V z nw) z) : Int) ∧ s' = s2) ?_ ?_
    · rintro w s2 ⟨rfl, rfl⟩
      refine iNe (fun _ => ?_) (fun h => by omega)
      refine wp_rfd (rI (foq V (cv V) z nw) rfl (by omega) ?_)
      rw [hTq.1]
      refine rR (jln V z nw) rfl (by omega) ?_
      rw [show pl (s' (pl (s' 136 0)) (jln V z nw)) = PL s' (jln V z nw) from rfl]
      refine rI (foq V (cv V) z nw) rfl (by omega) ?_
      rw [hTq.2]
      refine wp_bnd _ (c_firstAt ok hfu hl.1 hL (by omega) (by omega)) ?_
      rintro w s2 ⟨rfl, rfl⟩
      refine wp_bnd _ (c_timeBetween ok hfu hl.1 hL (by omega) hlv.2.1) ?_
      rintro w s2 ⟨rfl, rfl⟩
      refine wp_lt (rI (lvq V (cv V) (jln V z nw) (plc V (jln V z nw) z)) rfl (by omega) ?_)
      rw [hL.2.2.2.2.2.1 _ hlv.2.1, ← hst.1]
      refine rI (foq V (cv V) z nw) rfl (by omega) ?_
      rw [hTq.1]
      rw [hjl, hnx] at hkr
      refine wp_bnd _ hkr ?_
      intro _ s3 ⟨g1, g2⟩
      refine hrec _ _ _ ⟨by rw [hnx]; rfl, by rw [hnx]; rfl, g1, fun k j => ?_⟩
      have a := g2 k j
      have b := j2 k j
      omega
    · intro jj hj
      refine iNe (fun _ => ?_) (fun h => by omega)
      refine wp_rfd (rI (foq V (cv V) z nw) rfl (by omega) ?_)
      rw [hTq.1]
      refine rR (jln V z nw) rfl (by omega) ?_
      rw [show pl (s' (pl (s' 136 0)) (jln V z nw)) = PL s' (jln V z nw) from rfl]
      refine rI (foq V (cv V) z nw) rfl (by omega) ?_
      rw [hTq.2]
      refine wp_bnd _ (c_leftFrom ok hfu hl.1 hL (hD'.2 _ hl.1) hlv.1 hlv.2.1 hlv.2.2.1 hlv.2.2.2.1) ?_
      rintro w s2 ⟨rfl, rfl⟩
      exact hj _ _ ⟨rfl, rfl⟩
  · rintro n x y s' ⟨rfl, rfl, j1, j2⟩
    have hM9 := hM.1
    have e4 : s' 136 4 = V 328 11 := by rw [← hC.1.2.2.2.1]; have := j2 136 4; omega
    have hfin : (jr V now s m).1 - now = dur V now s := by unfold dur; rw [hm]
    rw [fX0_takes_L14, e4, hM.2.1, hgl.1]
    refine iLe (fun h => by omega) (fun _ => ?_)
    exact iEq (fun _ => wp_some ⟨hfin, j1, j2⟩) (fun h => absurd rfl h)
  · by_cases e : k = 325 ∧ j = 2
    · left; omega
    · rw [mset_eq, if_neg e]; exact Or.inr rfl
/-! the reference's rides -/
theorem AgN.ref (h : AgN V V') (hR : Ref V' σ) : Ref V σ := ⟨fun j hj => (hR.1 j hj).trans (h.1 j hj), fun k j b1 b2 => (hR.2 k j b1 b2).trans (h.2 k j b1 (by omega))⟩
noncomputable def jrw (U V : Mem) (now : Int) (s b : Nat) : Nat → Mem
  | 0 => U
  | i + 1 => if b = 1 ∧ i < 8 then psh (psh (jrw U V now s b i) (jl V now s i : Int)) ((jr V now s (i + 1)).2 : Int) else jrw U V now s b i
theorem jrw_take {b i : Nat} (h : b = 1 ∧ i < 8) : jrw U V now s b (i + 1) = psh (psh (jrw U V now s b i) (jl V now s i : Int)) ((jr V now s (i + 1)).2 : Int) := if_pos h
theorem jrw_keep {b i : Nat} (h : ¬ (b = 1 ∧ i < 8)) : jrw U V now s b (i + 1) = jrw U V now s b i := if_neg h
theorem jrw_0 : ∀ i, jrw U V now s 0 i = U := by
  intro i
  induction i with
  | zero => rfl
  | succ i ih => rw [jrw_keep (by omega)]; exact ih
theorem jrw_ag {b : Nat} (hU : AgN V U) : ∀ i, AgN V (jrw U V now s b i) := by
  intro i
  induction i with
  | zero => exact hU
  | succ i ih =>
    by_cases g : b = 1 ∧ i < 8
    · rw [jrw_take g]; exact (ih.trans psh_ag).trans psh_ag
    · rw [jrw_keep g]; exact ih
theorem jrw_19 {b : Nat} (hb : b = 1 → U 328 19 = 0) : ∀ i : Nat, b = 1 → jrw U V now s b i 328 19 = 2 * (if i < 8 then (i : Int) else 8) := by
  intro i e
  induction i with
  | zero => rw [show jrw U V now s b 0 = U from rfl, hb e]; rfl
  | succ i ih =>
    by_cases g : b = 1 ∧ i < 8
    · rw [jrw_take g, psh_19, psh_19, ih, if_pos g.2]
      split <;> omega
    · rw [jrw_keep g, ih, if_neg (by omega), if_neg (by omega)]
theorem jrw_ok {b : Nat} (hU : OkA t U) (hb : b = 1 → U 328 19 = 0) : ∀ i, OkA t (jrw U V now s b i) := by
  intro i
  induction i with
  | zero => exact hU
  | succ i ih =>
    by_cases g : b = 1 ∧ i < 8
    · have h19 := jrw_19 (V := V) (now := now) (s := s) hb i g.1
      rw [if_pos g.2] at h19
      rw [jrw_take g]
      exact psh_ok (psh_ok ih (by omega)) (by rw [psh_19]; omega)
    · rw [jrw_keep g]; exact ih
noncomputable def foL (V : Mem) (s : Nat) (now : Int) (i : Nat) : Int := if (fo V (cv V) s now i).1 = -1 then -1 else ((gtL (tk V (cv V) s) (fo V (cv V) s now i).1.toNat).2 : Int)
theorem r_firstOf {Q : Int → Mem → Prop} {K : Int → Int → Mem → PR} {e1 e2 : Int} (ok : OkN V) (hfu : 1000 < fu) (hR : Ref V σ) (hD : SetS V (cv V) σ s) (hs : s < 10) (hne : 0 < (tk V (cv V) s).length) (hn : 0 ≤ now ∧ now ≤ 40000000) (hK : wp (K (jln V s now : Int) (fAt V (jln V s now) (plc V (jln V s now) s) now) σ) Q) : wp (fX7_goes_L29 fu e1 e2 now (s : Int) K fu (-1) 0 0 σ) Q := by
  have hlen := tk_len (c := cv V) (s := s) ok
  have hnn := ok.n
  have hb := fun s => (cv_b ok s).1
  have hq := foq_is (V := V) (c := cv V) (s := s) (now := now) hne
  refine for3 (f := fX7_goes_L29 fu e1 e2 now (s : Int) K) (tk V (cv V) s).length (fun i x y s' => x = foL V s now i ∧ y = (fo V (cv V) s now i).2 ∧ σ = s') ?_ ?_ (i := 0) ⟨rfl, rfl, rfl⟩
  · rintro n i x y s' hi ⟨rfl, rfl, rfl⟩ hrec
    have hl := tk_line ok hb hi
    have hfb := fAt_b ok hl.1 (show plc V (gtL (tk V (cv V) s) i).2 s < ln V (gtL (tk V (cv V) s) i).2 by omega) hn.1
    have hinv := fo_inv (V := V) (c := cv V) (s := s) (now := now) i
    have hcase : (foL V s now i = -1 ∧ (fo V (cv V) s now i).1 = -1) ∨ ((0 ≤ foL V s now i ∧ foL V s now i < 12) ∧ (fo V (cv V) s now i).1 ≠ -1 ∧ 0 ≤ (fo V (cv V) s now i).2 ∧ (fo V (cv V) s now i).2 ≤ now + 1560000) := by
      rcases hinv with ⟨_, e⟩ | ⟨q, q1, q2, q3⟩
      · left; unfold foL; rw [e]; exact ⟨rfl, rfl⟩
      · right
        have hlq := tk_line ok hb (show q < (tk V (cv V) s).length by omega)
        have hfq := fAt_b ok hlq.1 (show plc V (gtL (tk V (cv V) s) q).2 s < ln V (gtL (tk V (cv V) s) q).2 by omega) hn.1
        have : foL V s now i = ((gtL (tk V (cv V) s) q).2 : Int) := by unfold foL; rw [if_neg (by omega), q2, Int.toNat_natCast]
        omega
    have htake : ((fo V (cv V) s now i).1 = -1 ∨ fAt V (gtL (tk V (cv V) s) i).2 (plc V (gtL (tk V (cv V) s) i).2 s) now < (fo V (cv V) s now i).2) → ((gtL (tk V (cv V) s) i).2 : Int) = foL V s now (i + 1) ∧ fAt V (gtL (tk V (cv V) s) i).2 (plc V (gtL (tk V (cv V) s) i).2 s) now = (fo V (cv V) s now (i + 1)).2 ∧ σ = σ := by
      intro g
      have e := fo_take g
      refine ⟨?_, by rw [e], rfl⟩
      unfold foL
      rw [e]
      show _ = if ((i : Int)) = -1 then (-1 : Int) else ((gtL (tk V (cv V) s) ((i : Int)).toNat).2 : Int)
      rw [if_neg (by omega), Int.toNat_natCast]
    have hkeep : ¬ ((fo V (cv V) s now i).1 = -1 ∨ fAt V (gtL (tk V (cv V) s) i).2 (plc V (gtL (tk V (cv V) s) i).2 s) now < (fo V (cv V) s now i).2) → foL V s now i = foL V s now (i + 1) ∧ (fo V (cv V) s now i).2 = (fo V (cv V) s now (i + 1)).2 ∧ σ = σ := by
      intro g
      unfold foL
      rw [fo_keep g]
      exact ⟨rfl, rfl, rfl⟩
    rw [fX7_goes_L29]
    refine rI s rfl hs ?_
    rw [hD.1]
    refine iLe (fun h => by omega) (fun _ => ?_)
    refine rI (12 * s + i) (by omega) (by omega) ?_
    rw [hD.2.2 i hi]
    refine wp_bnd _ (r_placeOf ok hfu hR hl.1 hs) ?_
    rintro w s5 ⟨rfl, rfl⟩
    rw [if_pos (by omega)]
    refine wp_bnd _ (r_comesAt ok hfu hl.1 hR (by omega) (by omega)) ?_
    rintro w s5 ⟨rfl, rfl⟩
    refine wp_jn (wp_jn ?_)
    refine iEq (fun g => hrec _ _ _ (htake (by omega))) (fun g => ?_)
    exact jLt (fun g2 => hrec _ _ _ (htake (Or.inr g2))) (fun g2 => hrec _ _ _ (hkeep (by omega)))
  · rintro n x y s' ⟨rfl, rfl, rfl⟩
    rw [fX7_goes_L29]
    refine rI s rfl hs ?_
    rw [hD.1]
    refine iLe (fun _ => ?_) (fun h => by omega)
    have e1 : foL V s now (tk V (cv V) s).length = (jln V s now : Int) := by
      unfold foL jln
      rw [if_neg (by omega), hq.2.1, Int.toNat_natCast]
    rw [e1, hq.2.2]
    exact hK
theorem r_goes {b : Nat} (h : OkA t V) (hfu : 1000 < fu) (hU : AgN V U) (hbU : b = 1 → U 328 19 = 0) (hR : RefA U σ) (hD : DatR V (cv V) σ) (hs : s < 10) (hc : 0 ≤ cv V s) (hn : 0 ≤ now ∧ now ≤ 100000) (hb01 : b = 0 ∨ b = 1) : wp (fX7_goes fu (s : Int) now (b : Int) σ) (fun r σ' => r = dur V now s ∧ RefA (jrw U V now s b (mjv V now s)) σ' ∧ (∀ k j, 346 ≤ k → k ≤ 353 → σ' k j = σ k j) ∧ Lo σ σ') := by
  have ok := h.1
  have hgl := ok.go
  have hnn := ok.n
  have hM := mjv_is h hs hc hn
  have hfin : (jr V now s (mjv V now s)).1 - now = dur V now s := rfl
  generalize hm : mjv V now s = m at *
  unfold fX7_goes
  refine wp_stf ?_
  have key : ∀ (fuel i : Nat) (s' : Mem), i ≤ m → m - i < fuel → RefA (jrw U V now s b i) s' → s' 328 49 = (i : Int) → (∀ k j, 346 ≤ k → k ≤ 353 → s' k j = σ k j) → Lo σ s' → wp (fX7_goes_L11 fu now (b : Int) (fun x27 s28 => some (x27 - now, s28)) fuel (jr V now s i).1 ((jr V now s i).2 : Int) s') (fun r σ' => r = dur V now s ∧ RefA (jrw U V now s b m) σ' ∧ (∀ k j, 346 ≤ k → k ≤ 353 → σ' k j = σ k j) ∧ Lo σ σ') := by
    intro fuel
    induction fuel with
    | zero => intro i s' _ hf; omega
    | succ n ih =>
      intro i s' him hf j1 j49 j2 j3
      have hRv : Ref V s' := (jrw_ag hU i).ref j1.1
      have hM9 := hM.1
      rw [fX7_goes_L11, hRv.j (by omega)]
      by_cases e : i = m
      · subst e
        rw [hM.2.1, hgl.1]
        exact iEq (fun _ => wp_some ⟨hfin, j1, j2, j3⟩) (fun h => absurd rfl h)
      · have hne := hM.2.2 i (by omega)
        have hinv := jr_inv h hs hc hn i (fun j hj => hM.2.2 j (by omega))
        have hnx : jr V now s (i + 1) = jnx V (jr V now s i).1 (jr V now s i).2 := rfl
        have hjl : jl V now s i = jln V (jr V now s i).2 (jr V now s i).1 := rfl
        have hxx := jnx_is h hinv.1 hne hinv.2.1 hinv.2.2.2.1
        have hnow : (jr V now s i).1 ≤ 30000000 := by omega
        have ih := ih (i + 1)
        rw [hnx] at ih
        have htk := jrw_take (U := U) (V := V) (now := now) (s := s) (b := b) (i := i)
        rw [hnx, hjl] at htk
        have hkp := jrw_keep (U := U) (V := V) (now := now) (s := s) (b := b) (i := i)
        have h19 := jrw_19 (V := V) (now := now) (s := s) hbU i
        generalize (jr V now s i).1 = nw at *
        generalize (jr V now s i).2 = z at *
        have hb := fun s => (cv_b ok s).1
        have hq := hxx.1
        have hl : jln V z nw < nn V ∧ V 337 (jln V z nw) = 0 ∧ plc V (jln V z nw) z + 1 < ln V (jln V z nw) ∧ _ := tk_line ok hb hq
        have hlv : plc V (jln V z nw) z < lvq V (cv V) (jln V z nw) (plc V (jln V z nw) z) ∧ lvq V (cv V) (jln V z nw) (plc V (jln V z nw) z) < ln V (jln V z nw) ∧ alv V (cv V) (jln V z nw) (lvq V (cv V) (jln V z nw) (plc V (jln V z nw) z)) = 1 ∧ (∀ j, plc V (jln V z nw) z < j → j < lvq V (cv V) (jln V z nw) (plc V (jln V z nw) z) → alv V (cv V) (jln V z nw) j = 0) ∧ _ := tk_lv ok hb hq
        have hlen := tk_len (c := cv V) (s := z) ok
        have h8 := ok.len hl.1
        have hst := ok.st hl.1 hlv.2.1
        have hD' : DatR V (cv V) s' := DatR.mv (σ := σ) hD ok (fun k j b1 b2 => j2 k j b1 (by omega))
        refine iEq (fun h => by omega) (fun _ => ?_)
        refine r_firstOf ok hfu hRv (hD'.1 z hinv.1).2 hinv.1 (by omega) (by omega) ?_
        refine wp_bnd _ (r_placeOf ok hfu hRv hl.1 hinv.1) ?_
        rintro w s5 ⟨rfl, rfl⟩
        rw [if_pos (by omega)]
        refine wp_bnd _ (r_leaves ok hfu hl.1 (hD'.2 _ hl.1) hlv.1 hlv.2.1 hlv.2.2.1 hlv.2.2.2.1) ?_
        rintro w s5 ⟨rfl, rfl⟩
        refine for2 (f := fX7_goes_L133 fu now (b : Int) (jln V z nw : Int) (lvq V (cv V) (jln V z nw) (plc V (jln V z nw) z) : Int) _) (lvq V (cv V) (jln V z nw) (plc V (jln V z nw) z)) (fun i x s => plc V (jln V z nw) z ≤ i ∧ x = fAt V (jln V z nw) (plc V (jln V z nw) z) nw + tbs V (jln V z nw) (plc V (jln V z nw) z) (i - plc V (jln V z nw) z) ∧ s' = s) ?_ ?_ (i := plc V (jln V z nw) z) ⟨Nat.le_refl _, by rw [Nat.sub_self]; simp [tbs], rfl⟩
        · rintro n i x s hi ⟨g0, rfl, rfl⟩ hrec
          rw [fX7_goes_L133]
          refine iLe (fun h => by omega) (fun _ => ?_)
          refine wp_bnd _ (r_time ok hl.1 hRv (by omega)) ?_
          rintro x s5 ⟨rfl, rfl⟩
          refine wp_lt (hrec _ _ ⟨by omega, ?_, rfl⟩)
          rw [show i + 1 - plc V (jln V z nw) z = (i - plc V (jln V z nw) z) + 1 by omega]
          simp only [tbs]
          rw [show plc V (jln V z nw) z + (i - plc V (jln V z nw) z) = i by omega]
          omega
        · rintro n2 x s5 ⟨g0, rfl, rfl⟩
          rw [fX7_goes_L133]
          refine iLe (fun _ => ?_) (fun h => by omega)
          unfold fX7_at
          refine wp_bs (rI (8 * jln V z nw + lvq V (cv V) (jln V z nw) (plc V (jln V z nw) z)) (by omega) (by omega) ?_)
          rw [hRv.2 331 _ (by omega) (by omega), ← hst.1]
          refine wp_jm (fun s6 => RefA (jrw U V now s b (i + 1)) s6 ∧ s6 328 49 = (i : Int) ∧ (∀ k j, 346 ≤ k → k ≤ 353 → s6 k j = σ k j) ∧ Lo σ s6) ?_ ?_
          · intro s6 ⟨k1, k2, k3, k4⟩
            refine wp_stf ?_
            refine ih _ (by omega) (by omega) (k1.mv ((RP.refl _).set (by omega))) (by rw [ms_eq, k2]; omega) (fun k j b1 b2 => by rw [ms_k (by omega)]; exact k3 k j b1 b2) (k4.set (by omega))
          · intro jj hj
            rcases hb01 with e0 | e0
            · subst e0
              refine iEq0 (fun _ => hj _ ⟨by rw [hkp (by omega)]; exact j1, j49, j2, j3⟩) (fun h => absurd rfl h)
            · subst e0
              refine iEq0 (fun h => by omega) (fun _ => ?_)
              rw [j49]
              refine iLe (fun g => hj _ ⟨by rw [hkp (by omega)]; exact j1, j49, j2, j3⟩) (fun g => ?_)
              have h19i := h19 rfl
              rw [if_pos (by omega)] at h19i
              rw [w32_sm (x := (jln V z nw : Int)) (by omega) (by omega), w32_sm (x := (sp V (jln V z nw) (lvq V (cv V) (jln V z nw) (plc V (jln V z nw) z)) : Int)) (by omega) (by omega)]
              refine wp_bnd _ (r_tell fu (by omega) j1) ?_
              intro _ s7 ⟨q1, q2, q3⟩
              refine wp_bnd _ (r_tell fu (by rw [psh_19]; omega) q1) ?_
              intro _ s8 ⟨w1, w2, w3⟩
              refine hj _ ⟨by rw [htk ⟨rfl, by omega⟩]; exact w1, ?_, fun k j b1 b2 => ?_, (j3.trans q2).trans w2⟩
              · rw [w3 _ _ (by omega) (by omega), q3 _ _ (by omega) (by omega)]; exact j49
              · rw [w3 _ _ (by omega) (by omega), q3 _ _ (by omega) (by omega)]; exact j2 k j b1 b2
  exact key fu 0 _ (by omega) (by have := hM.1; omega) (hR.mv ((RP.refl _).set (by omega))) (by rw [ms_eq]; rfl) (fun k j b1 b2 => ms_k (by omega)) ((Lo.refl σ).set (by omega))
theorem jrw_end {b : Nat} (hm : m ≤ 9) : jrw U V now s b m = jrw U V now s b (if m < 8 then m else 8) := by
  split
  · rfl
  · by_cases e : m = 8
    · rw [e]
    · rw [show m = 8 + 1 by omega]
      exact jrw_keep (by omega)
theorem op_journey (h : OkA t V) (hfu : 1000 < fu) (ha : R32 a) (hb : R32 b) : Op t V (fX6_journey fu a b) (fX7_journey fu a b) := by
  have hnn := h.1.n
  by_cases hc : (0 ≤ a ∧ a < 10) ∧ 0 ≤ b ∧ b ≤ 100000
  · obtain ⟨s, rfl⟩ := Int.eq_ofNat_of_zero_le hc.1.1
    have hs : s < 10 := by omega
    have hv := cv_b h.1 s
    by_cases hd : 0 ≤ cv V s
    · have hM := mjv_is h hs hd hc.2
      have hemp : (1 : Nat) = 1 → emp V 328 19 = 0 := fun _ => emp_19
      refine ⟨dur V b s, jrw (emp V) V b s 1 (mjv V b s), (jrw_ok (emp_ok h) hemp _).up, fun σ hC => ?_, fun σ hR => ?_⟩
      · unfold fX6_journey
        refine wp_bnd _ (c_isStop fu σ ha) ?_
        rintro x s' ⟨h0, h1, rfl⟩
        refine wp_jn (iEq0 (fun h => by omega) (fun _ => ?_))
        refine wp_bnd _ (c_isStart fu σ hb) ?_
        rintro x s' ⟨g0, g1, rfl⟩
        refine iNe0 (fun _ => ?_) (fun h => by omega)
        refine wp_bnd _ (c_find h hfu hC) ?_
        intro _ s2 ⟨d1, d2, d3, d4⟩
        refine rS s rfl hs ?_
        rw [(d1.1 s hs).1]
        refine iNe (fun _ => ?_) (fun h => by omega)
        refine wp_bnd _ (c_takes h hfu d2 ⟨d1.1, d1.2.1⟩ hs hd hc.2) ?_
        rintro x s3 ⟨rfl, e2, e3⟩
        have hCP3 : CP s2 s3 := fun k j => by have := e3 k j; omega
        refine wp_bnd _ (c_empty fu h.1 (d2.mv h.1 hCP3)) ?_
        intro _ s4 ⟨w1, w2, w3⟩
        rw [jrw_end hM.1]
        have hM9 := hM.1
        generalize mjv V b s = m at *
        refine for1 (f := fX6_journey_L66 fu (dur V b s) _) (if m < 8 then m else 8) (fun i s5 => ClsA (jrw (emp V) V b s 1 i) s5 ∧ Hi σ s5 ∧ ∀ k j, k ≠ 323 → k ≠ 324 → s5 k j = s3 k j) ?_ ?_ (i := 0) ⟨w1, (d3.trans hCP3.hi).trans w2, fun k j hk _ => w3 k j hk⟩ (by omega) (by split <;> omega)
        · intro n i s5 hi ⟨j1, j2, j3⟩ hrec
          have hi8 : i < 8 ∧ i < m := by split at hi <;> omega
          have hinv := jr_inv h hs hd hc.2 (i + 1) (fun j hj => hM.2.2 j (by omega))
          have hinv0 := jr_inv h hs hd hc.2 i (fun j hj => hM.2.2 j (by omega))
          have hxx := jnx_is h hinv0.1 (hM.2.2 i hi8.2) hinv0.2.1 hinv0.2.2.2.1
          have hjl : jl V b s i < 12 := by
            have := (tk_line h.1 (fun s => (cv_b h.1 s).1) hxx.1).1
            have e : jl V b s i < nn V := this
            omega
          have hk1 := e2.1
          have hk2 := e2.2 i hi8.2 hi8.1
          have h19 := jrw_19 (V := V) (now := b) (s := s) hemp i rfl
          rw [if_pos hi8.1] at h19
          rw [fX6_journey_L66, j3 _ _ (by omega) (by omega), hk1]
          refine iLe (fun h => by split at h <;> omega) (fun _ => ?_) (by split <;> omega) (by omega)
          refine rI i rfl hi8.1 ?_
          rw [j3 _ _ (by omega) (by omega), hk2.1, w32_sm (by omega) (by omega)]
          refine wp_bnd _ (c_put fu ((jrw_ag emp_ag i).ok h.1) (by omega) j1) ?_
          intro _ s6 ⟨q1, q2, q3⟩
          refine rI i rfl hi8.1 ?_
          rw [q3 _ _ (by omega) (by omega), j3 _ _ (by omega) (by omega), hk2.2, w32_sm (by omega) (by omega)]
          refine wp_bnd _ (c_put fu (((jrw_ag emp_ag i).trans psh_ag).ok h.1) (by rw [psh_19]; omega) q1) ?_
          intro _ s7 ⟨z1, z2, z3⟩
          refine hrec s7 ⟨?_, (j2.trans q2).trans z2, fun k j b1 b2 => ((z3 k j b1 b2).trans (q3 k j b1 b2)).trans (j3 k j b1 b2)⟩
          rw [jrw_take ⟨rfl, hi8.1⟩]; exact z1
        · intro n s5 ⟨j1, j2, j3⟩
          rw [fX6_journey_L66, j3 _ _ (by omega) (by omega), e2.1]
          refine iLe (fun _ => wp_some ⟨rfl, j1, j2⟩) (fun h => ?_) (by split <;> omega) (by split <;> omega)
          split at h <;> omega
      · unfold fX7_journey
        refine wp_stf ?_
        refine wp_bnd _ (r_isStop fu _ ha) ?_
        rintro x s' ⟨h0, h1, rfl⟩
        refine wp_jn (iEq0 (fun h => by omega) (fun _ => ?_))
        rw [w32_id hb]
        refine wp_bnd _ (r_in fu (by omega) (by omega) (by omega)) ?_
        rintro x s' ⟨g0, g1, rfl⟩
        refine iNe0 (fun _ => ?_) (fun h => by omega)
        refine wp_bnd _ (r_lays h hfu hR.s20) ?_
        intro _ s2 ⟨d1, d2, d3, d4⟩
        refine rI s rfl hs ?_
        rw [(d1.1 s hs).1]
        refine jLe (fun _ => ?_) (fun h => by omega)
        refine wp_stf ?_
        have hD3 : CostR V (mset s2 328 19 0) := ⟨fun q hq => ⟨by rw [ms_k (by omega)]; exact (d1.1 q hq).1, (d1.1 q hq).2.mv h.1 (ms_k (by omega)) (ms_k (by omega)) (fun j _ _ => ms_k (by omega))⟩, fun l hl => (d1.2.1 l hl).mv (fun j => ms_k (by omega)) (fun j => ms_k (by omega)), by rw [ms_j (by omega)]; exact d1.2.2⟩
        refine wp_bnd _ (r_goes (b := 1) h hfu emp_ag hemp (r_emp d2) ⟨hD3.1, hD3.2.1⟩ hs hd hc.2 (Or.inr rfl)) ?_
        rintro x s3 ⟨rfl, e2, e3, e4⟩
        exact wp_some ⟨rfl, e2, ((lo20 σ 0).trans (lo19 d3 0)).trans e4⟩
    · refine op_same h (-2) (fun σ hC => ?_) (fun σ hR => ?_)
      · unfold fX6_journey
        refine wp_bnd _ (c_isStop fu σ ha) ?_
        rintro x s' ⟨h0, h1, rfl⟩
        refine wp_jn (iEq0 (fun h => by omega) (fun _ => ?_))
        refine wp_bnd _ (c_isStart fu σ hb) ?_
        rintro x s' ⟨g0, g1, rfl⟩
        refine iNe0 (fun _ => ?_) (fun h => by omega)
        refine wp_bnd _ (c_find h hfu hC) ?_
        intro _ s2 ⟨d1, d2, d3, d4⟩
        refine rS s rfl hs ?_
        rw [(d1.1 s hs).1]
        exact iNe (fun _ => by omega) (fun h => wp_some ⟨rfl, d4⟩)
      · unfold fX7_journey
        refine wp_stf ?_
        refine wp_bnd _ (r_isStop fu _ ha) ?_
        rintro x s' ⟨h0, h1, rfl⟩
        refine wp_jn (iEq0 (fun h => by omega) (fun _ => ?_))
        rw [w32_id hb]
        refine wp_bnd _ (r_in fu (by omega) (by omega) (by omega)) ?_
        rintro x s' ⟨g0, g1, rfl⟩
        refine iNe0 (fun _ => ?_) (fun h => by omega)
        refine wp_bnd _ (r_lays h hfu hR.s20) ?_
        intro _ s2 ⟨d1, d2, d3, d4⟩
        refine rI s rfl hs ?_
        rw [(d1.1 s hs).1]
        exact jLe (fun _ => by omega) (fun h => wp_some ⟨rfl, (rp20 σ 0).trans d4⟩)
  · refine op_same h (-1) (fun σ hC => ?_) (fun σ hR => ?_)
    · unfold fX6_journey
      refine wp_bnd _ (c_isStop fu σ ha) ?_
      rintro x s' ⟨h0, h1, rfl⟩
      refine wp_jn (iEq0 (fun h => wp_some ⟨rfl, CP.refl σ⟩) (fun _ => ?_))
      refine wp_bnd _ (c_isStart fu σ hb) ?_
      rintro x s' ⟨g0, g1, rfl⟩
      exact iNe0 (fun _ => by omega) (fun h => wp_some ⟨rfl, CP.refl σ⟩)
    · unfold fX7_journey
      refine wp_stf ?_
      refine wp_bnd _ (r_isStop fu _ ha) ?_
      rintro x s' ⟨h0, h1, rfl⟩
      refine wp_jn (iEq0 (fun h => wp_some ⟨rfl, rp20 σ 0⟩) (fun _ => ?_))
      rw [w32_id hb]
      refine wp_bnd _ (r_in fu (by omega) (by omega) (by omega)) ?_
      rintro x s' ⟨g0, g1, rfl⟩
      exact iNe0 (fun _ => by omega) (fun h => wp_some ⟨rfl, rp20 σ 0⟩)
end JOUR
