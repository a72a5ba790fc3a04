/-! ===== the reference: a round, all rounds ===== -/
section RCOSTS
variable {V σ : Mem} {c : Nat → Int} {l P p s fu : Nat}
theorem SetS.mv {σ' : Mem} (h : SetS V c σ s) (ok : OkN V) (e1 : σ' 352 s = σ 352 s) (e2 : σ' 350 s = σ 350 s) (e3 : ∀ j, 12 * s ≤ j → j < 12 * s + 12 → σ' 351 j = σ 351 j) : SetS V c σ' s := by
  refine ⟨by rw [e1]; exact h.1, by rw [e2]; exact h.2.1, fun i hi => ?_⟩
  have := tk_len (c := c) (s := s) ok
  rw [e3 _ (by omega) (by omega)]
  exact h.2.2 i hi
theorem r_round (ok : OkN V) (hfu : 1000 < fu) (hR : Ref V σ) (h37 : -1 ≤ V 328 37 ∧ V 328 37 ≤ 95) (hok : CstOk V c) (hc : ∀ s, s < 10 → σ 346 s = c s) :
    wp (fX7_isRoundDone fu σ) (fun r σ' => (r = 0 ∨ r = 1) ∧ (r = 1 ↔ ∀ s, s < 10 → Tv V c s = c s) ∧ (∀ s, s < 10 → σ' 346 s = Tv V c s ∧ SetS V c σ' s) ∧ (∀ l, l < nn V → AbL V c σ' l) ∧ RP σ σ' ∧ σ' 328 36 = σ 328 36 + 1) := by
  have hn := ok.n
  have hgl := ok.go
  have hbk := hok.1
  unfold fX7_isRoundDone
  refine for1 (f := fX7_isRoundDone_L2 fu _) 10 (fun i s2 => (∀ s, s < i → s2 347 s = c s) ∧ ∀ k j, k = 347 ∨ s2 k j = σ k j) ?_ ?_ (i := 0) ⟨fun s hs => by omega, fun k j => Or.inr rfl⟩
  · intro n i s2 hi ⟨j1, j2⟩ hrec
    rw [fX7_isRoundDone_L2]
    refine iLe (fun h => by omega) (fun _ => ?_)
    refine rI i rfl hi ?_
    refine wI i rfl hi ?_
    refine hrec _ ⟨fun s hs => ?_, fun k j => ?_⟩
    · by_cases e : s = i
      · rw [e, ms_eq, ← hc i hi]; have := j2 346 i; omega
      · rw [ms_j e]; exact j1 s (by omega)
    · by_cases e : k = 347
      · exact Or.inl e
      · rw [ms_k e]; exact j2 k j
  · intro n s2 ⟨j1, j2⟩
    rw [fX7_isRoundDone_L2]
    refine iLe (fun _ => ?_) (fun h => by omega)
    have hR2 : Ref V s2 := ⟨fun j hj => by rw [← hR.1 j hj]; have := j2 328 j; omega, fun k j h1 h2 => by rw [← hR.2 k j h1 h2]; have := j2 k j; omega⟩
    refine wp_bnd _ (r_aboard ok hfu hR2 h37 hbk j1) ?_
    intro _ s3 ⟨a1, a2⟩
    have hR3 : Ref V s3 := ⟨fun j hj => by rw [← hR2.1 j hj]; have := a2 328 j; omega, fun k j h1 h2 => by rw [← hR2.2 k j h1 h2]; have := a2 k j; omega⟩
    have h347 : ∀ s, s < 10 → s3 347 s = c s := fun s hs => by rw [← j1 s hs]; have := a2 347 s; omega
    have h346 : ∀ s, s < 10 → s3 346 s = c s := fun s hs => by rw [← hc s hs]; have := a2 346 s; have := j2 346 s; omega
    refine for2 (f := fX7_isRoundDone_L34 fu _) 10 (fun i a s4 => (a = 0 ∨ a = 1) ∧ (a = 1 ↔ ∀ s, s < i → Tv V c s = c s) ∧ (∀ s, s < i → s4 346 s = Tv V c s ∧ SetS V c s4 s) ∧ (∀ s, i ≤ s → s < 10 → s4 346 s = c s) ∧ (∀ k j, k = 346 ∨ k = 350 ∨ k = 351 ∨ k = 352 ∨ k = 353 ∨ s4 k j = s3 k j)) ?_ ?_ (i := 0) ?_
    · intro n i a s4 hi ⟨g0, g1, g2, g3, g4⟩ hrec
      have h01 := (ok.2.2.2.2.1 i hi).2
      have hbi := hbk i
      have hR4 : Ref V s4 := ⟨fun j hj => by rw [← hR3.1 j hj]; have := g4 328 j; omega, fun k j h1 h2 => by rw [← hR3.2 k j h1 h2]; have := g4 k j; omega⟩
      have hTb := Tv_ge (c := c) ok i
      have hTb2 := Tv_le (c := c) ok (M := 20000000) (by omega) (fun s => (hbk s).2) i
      rw [fX7_isRoundDone_L34]
      refine iLe (fun h => by omega) (fun _ => ?_)
      refine wI i rfl hi ?_
      refine wI i rfl hi ?_
      have hfr5 : ∀ k j, k = 350 ∨ k = 352 ∨ (mset (mset s4 352 i 0) 350 i 0) k j = s4 k j := by
        intro k j
        by_cases e : k = 350 ∨ k = 352
        · omega
        · rw [ms_k (by omega), ms_k (by omega)]; exact Or.inr (Or.inr rfl)
      have hR5 : Ref V (mset (mset s4 352 i 0) 350 i 0) := ⟨fun j hj => by rw [← hR4.1 j hj]; have := hfr5 328 j; omega, fun k j h1 h2 => by rw [← hR4.2 k j h1 h2]; have := hfr5 k j; omega⟩
      refine wp_jm (fun s5 => s5 346 i = Tv V c i ∧ SetS V c s5 i ∧ (∀ k j, k = 353 ∨ ((k = 346 ∨ k = 350 ∨ k = 352) ∧ j = i) ∨ (k = 351 ∧ 12 * i ≤ j ∧ j < 12 * i + 12) ∨ s5 k j = s4 k j)) ?_ ?_
      · intro s5 ⟨q1, q2, q3⟩
        refine wp_ji (fun x s' => (x = 0 ∨ x = 1) ∧ (x = 1 ↔ a = 1 ∧ Tv V c i = c i) ∧ s5 = s') ?_ ?_
        · rintro x s' ⟨x0, x1, rfl⟩
          refine hrec x _ ⟨x0, ?_, fun s hs => ?_, fun s h1 h2 => ?_, fun k j => ?_⟩
          · rw [x1, g1]
            constructor
            · intro q s hs
              by_cases e : s = i
              · rw [e]; exact q.2
              · exact q.1 s (by omega)
            · intro q; exact ⟨fun s hs => q s (by omega), q i (by omega)⟩
          · by_cases e : s = i
            · subst e; exact ⟨q1, q2⟩
            · have d := g2 s (by omega)
              refine ⟨?_, d.2.mv ok ?_ ?_ (fun j h1 h2 => ?_)⟩
              · have := q3 346 s; omega
              · have := q3 352 s; omega
              · have := q3 350 s; omega
              · have := q3 351 j; omega
          · rw [← g3 s (by omega) h2]; have := q3 346 s; omega
          · rcases q3 k j with e | e | e | e
            · omega
            · omega
            · omega
            · rw [e]; exact g4 k j
        · intro j hj
          have e7 : s5 347 i = c i := by rw [← h347 i hi]; have := q3 347 i; have := g4 347 i; omega
          refine wp_jn (wp_jn ?_)
          refine iEq0 (fun h => ?_) (fun h => ?_)
          · exact hj _ _ ⟨Or.inl rfl, by omega, rfl⟩
          · refine rI i rfl hi ?_
            refine rI i rfl hi ?_
            rw [q1, e7]
            refine jNe (fun h2 => ?_) (fun h2 => ?_)
            · exact hj _ _ ⟨Or.inl rfl, by omega, rfl⟩
            · exact hj _ _ ⟨Or.inr rfl, by omega, rfl⟩
      · intro j hj
        have hnone : (i = gl V ∨ V 339 i ≠ 0) → wp (j (mset (mset s4 352 i 0) 350 i 0)) (fun r σ' => (r = 0 ∨ r = 1) ∧ (r = 1 ↔ ∀ s, s < 10 → Tv V c s = c s) ∧ (∀ s, s < 10 → σ' 346 s = Tv V c s ∧ SetS V c σ' s) ∧ (∀ l, l < nn V → AbL V c σ' l) ∧ RP σ σ' ∧ σ' 328 36 = σ 328 36 + 1) := by
          intro h
          have hT : Tv V c i = c i := by unfold Tv; rw [if_pos (by omega), hok.2 i hi h]
          have htk := tk_none (c := c) h
          refine hj _ ⟨?_, ⟨?_, ?_, fun q hq => ?_⟩, fun k j => ?_⟩
          · rw [ms_k (by omega), ms_k (by omega), hT]; exact g3 i (by omega) hi
          · rw [htk.1, ms_k (by omega), ms_eq]; rfl
          · rw [htk.2, ms_eq]
          · rw [htk.1] at hq; simp at hq
          · by_cases e : (k = 352 ∧ j = i) ∨ (k = 350 ∧ j = i)
            · omega
            · rw [mset_eq, if_neg (by omega), mset_eq, if_neg (by omega)]; simp
        rw [hR5.j (by omega)]
        refine iEq (fun h => hnone (by omega)) (fun h1 => ?_)
        refine rI i rfl hi ?_
        rw [hR5.2 339 _ (by omega) (by omega)]
        refine iNe0 (fun h => hnone (Or.inr h)) (fun h2 => ?_)
        have hA5 : ∀ l, l < nn V → AbL V c (mset (mset s4 352 i 0) 350 i 0) l := fun l hl => (a1 l hl).mv (fun j => by have := hfr5 348 j; have := g4 348 j; omega) (fun j => by have := hfr5 349 j; have := g4 349 j; omega)
        refine wp_bnd _ (r_laysSet ok hfu hR5 h37 hbk hA5 hi (by omega) h2) ?_
        intro _ s6 ⟨q1, q2, q3⟩
        refine hj _ ⟨q2, q1, fun k j => ?_⟩
        by_cases e : k = 353 ∨ ((k = 346 ∨ k = 350 ∨ k = 352) ∧ j = i) ∨ (k = 351 ∧ 12 * i ≤ j ∧ j < 12 * i + 12)
        · omega
        · have d := q3 k j
          have d2 : s6 k j = mset (mset s4 352 i 0) 350 i 0 k j := by omega
          rw [d2, mset_eq, if_neg (by omega), mset_eq, if_neg (by omega)]; simp
    · intro n a s4 ⟨g0, g1, g2, g3, g4⟩
      rw [fX7_isRoundDone_L34]
      refine iLe (fun _ => ?_) (fun h => by omega)
      refine wp_stf ?_
      refine wp_rtz g0 ⟨g0, g1, fun s hs => ?_, fun l hl => ?_, fun k j => ?_, ?_⟩
      · have d := g2 s hs
        refine ⟨by rw [ms_k (by omega)]; exact d.1, d.2.mv ok (by rw [ms_k (by omega)]) (by rw [ms_k (by omega)]) (fun j h1 h2 => by rw [ms_k (by omega)])⟩
      · exact (a1 l hl).mv (fun j => by rw [ms_k (by omega)]; have := g4 348 j; omega) (fun j => by rw [ms_k (by omega)]; have := g4 349 j; omega)
      · by_cases e : k = 328 ∧ j = 36
        · left; omega
        · rw [mset_eq, if_neg e]
          by_cases e2 : 346 ≤ k ∧ k ≤ 360
          · left; omega
          · right
            have d1 := g4 k j
            have d2 := a2 k j
            have d3 := j2 k j
            omega
      · rw [ms_eq]
        have d1 := g4 328 36
        have d2 := a2 328 36
        have d3 := j2 328 36
        omega
    · exact ⟨Or.inr rfl, ⟨fun _ s hs => by omega, fun _ => rfl⟩, fun s hs => by omega, fun s _ hs => h346 s hs, fun k j => by simp⟩
def CostR (V σ : Mem) : Prop := (∀ s, s < 10 → σ 346 s = cv V s ∧ SetS V (cv V) σ s) ∧ (∀ l, l < nn V → AbL V (cv V) σ l) ∧ σ 328 36 = (rdv V : Int) + 1
theorem r_rounds {Q : Int → Mem → Prop} {k : Mem → PR} (ok : OkN V) (hfu : 1000 < fu) (hR : Ref V σ) (h37 : -1 ≤ V 328 37 ∧ V 328 37 ≤ 95) (hk : ∀ s2, CostR V s2 → RP σ s2 → wp (k s2) Q) :
    ∀ (fuel r : Nat) (x : Int) (s2 : Mem), r ≤ rdv V + 1 → 20 - r < fuel → RP σ s2 → s2 328 36 = (r : Int) → (∀ s, s < 10 → s2 346 s = itr (Tv V) (c0v V) r s) → (x = 0 ∨ x = 1) → (x = 1 ↔ r = rdv V + 1) → (x = 1 → (∀ s, s < 10 → SetS V (cv V) s2 s) ∧ (∀ l, l < nn V → AbL V (cv V) s2 l)) → wp (fX7_laysCosts_L51 fu k fuel x s2) Q := by
  have hRd := rv_is ok
  intro fuel
  induction fuel with
  | zero => intro r x s2 _ h; omega
  | succ n ih =>
    intro r x s2 hr hf hRP h36 hcs hx01 hx hdat
    rw [fX7_laysCosts_L51]
    have hr10 := hRd.1
    refine iNe0 (fun h => ?_) (fun h => ?_)
    · have h1 : x = 1 := by omega
      have e := hx.mp h1
      refine hk s2 ⟨fun s hs => ⟨?_, (hdat h1).1 s hs⟩, (hdat h1).2, by rw [h36, e]; omega⟩ hRP
      rw [hcs s hs, e]; exact hRd.2.1 s hs
    · have hr2 : r ≤ rdv V := by
        have : r ≠ rdv V + 1 := fun g => by have := hx.mpr g; omega
        omega
      have hR2 := hR.mv hRP
      have hok := itr_ok ok (r := r) (by omega)
      refine wp_bnd _ (r_round ok hfu hR2 h37 hok hcs) ?_
      intro x4 s4 ⟨q0, q1, q2, q3, q4, q5⟩
      have hst : (∀ s, s < 10 → Tv V (itr (Tv V) (c0v V) r) s = itr (Tv V) (c0v V) r s) ↔ r = rdv V := by
        constructor
        · intro g
          rcases Nat.lt_or_ge r (rdv V) with a | a
          · exact absurd g (hRd.2.2 r a)
          · omega
        · intro g; rw [g]; exact hRd.2.1
      refine ih (r + 1) x4 _ (by omega) (by omega) (hRP.trans q4) (by rw [q5, h36]; omega) (fun s hs => (q2 s hs).1) q0 (by rw [q1, hst]; omega) (fun e => ?_)
      have er : r = rdv V := hst.mp (q1.mp e)
      have ec : itr (Tv V) (c0v V) r = cv V := by rw [er]; rfl
      rw [ec] at q2 q3
      exact ⟨fun s hs => (q2 s hs).2, q3⟩
theorem r_laysCosts (ok : OkN V) (hfu : 1000 < fu) (hR : Ref V σ) (h37 : -1 ≤ V 328 37 ∧ V 328 37 ≤ 95) : wp (fX7_laysCosts fu σ) (fun _ σ' => CostR V σ' ∧ RP σ σ') := by
  have hgl := ok.go
  unfold fX7_laysCosts
  refine for1 (f := fX7_laysCosts_L2 fu _) 10 (fun i s2 => (∀ s, s < i → s2 346 s = c0v V s) ∧ (∀ k j, k = 346 ∨ s2 k j = σ k j)) ?_ ?_ (i := 0) ⟨fun s hs => by omega, fun k j => Or.inr rfl⟩
  · intro n i s2 hi ⟨j1, j2⟩ hrec
    have hR2 : Ref V s2 := ⟨fun j hj => by rw [← hR.1 j hj]; have := j2 328 j; omega, fun k j h1 h2 => by rw [← hR.2 k j h1 h2]; have := j2 k j; omega⟩
    have h01 := (ok.2.2.2.2.1 i hi).2
    rw [fX7_laysCosts_L2]
    refine iLe (fun h => by omega) (fun _ => ?_)
    refine wp_ji (fun x s' => x = c0v V i ∧ s2 = s') ?_ ?_
    · rintro x s' ⟨rfl, rfl⟩
      refine wI i rfl hi ?_
      refine hrec _ ⟨fun s hs => ?_, fun k j => ?_⟩
      · by_cases e : s = i
        · rw [e, ms_eq]
        · rw [ms_j e]; exact j1 s (by omega)
      · by_cases e : k = 346
        · exact Or.inl e
        · rw [ms_k e]; exact j2 k j
    · intro j hj
      refine wp_jn ?_
      rw [hR2.j (by omega)]
      refine iNe (fun h => ?_) (fun h => ?_)
      · exact hj _ _ ⟨by unfold c0v; rw [if_neg (by omega)], rfl⟩
      · refine rI i rfl hi ?_
        rw [hR2.2 339 _ (by omega) (by omega)]
        refine iNe0 (fun h2 => ?_) (fun h2 => ?_)
        · exact hj _ _ ⟨by unfold c0v; rw [if_neg (by omega)], rfl⟩
        · exact hj _ _ ⟨by unfold c0v; rw [if_pos (by omega)], rfl⟩
  · intro n s2 ⟨j1, j2⟩
    rw [fX7_laysCosts_L2]
    refine iLe (fun _ => ?_) (fun h => by omega)
    refine wp_stf ?_
    have hRP : RP σ (mset s2 328 36 0) := by
      refine RP.set (fun k j => ?_) (by omega)
      rcases j2 k j with d | d
      · left; omega
      · right; exact d
    refine r_rounds ok hfu hR h37 (fun s3 g1 g2 => wp_some ⟨g1, g2⟩) fu 0 0 _ (by omega) (by omega) hRP (by rw [ms_eq]; rfl) (fun s hs => ?_) (Or.inl rfl) (by omega) (fun h => by omega)
    rw [ms_k (by omega)]; exact j1 s hs
end RCOSTS
