/-! ===== the reference: aboard, boarding ===== -/
section RCOST
variable {V σ : Mem} {c : Nat → Int} {l P p s fu : Nat}
theorem Ref.j (h : Ref V σ) {j : Nat} (hj : j = 9 ∨ j = 10 ∨ j = 11 ∨ j = 12 ∨ j = 13 ∨ j = 37) : σ 328 j = V 328 j := h.1 j hj
theorem r_time (ok : OkN V) (hl : l < nn V) (hR : Ref V σ) (hp : p + 1 < ln V l) : wp (fX7_time fu (l : Int) (p : Int) σ) (fun r σ' => r = tmv V l p ∧ σ = σ') := by
  have h8 := (ok.len hl).2.2
  have ht := (ok.tm1 hl hp).2
  have hn := ok.n
  have hO := (ok.ok hl).2.2.2.2.2.2.2 p hp
  unfold fX7_time fX7_at
  rw [bnd_eq]
  refine rI (8 * l + p) (by omega) (by omega) ?_
  rw [bnd_eq]
  refine rI (8 * l + p) (by omega) (by omega) ?_
  rw [hR.2 332 _ (by omega) (by omega), hR.2 333 _ (by omega) (by omega)]
  exact wp_some ⟨by rw [w32_sm (by omega) (by omega), ht], rfl⟩
theorem r_bAt (ok : OkN V) (hl : l < nn V) (hR : Ref V σ) (hp : p + 1 < ln V l) (hb : ∀ s, -1 ≤ c s ∧ c s ≤ 20000000) (hA : σ 348 (8 * l + (p + 1)) = ahv V c l (p + 1)) : wp (fX7_boardingAt fu (l : Int) (p : Int) σ) (fun r σ' => r = bda V c l p ∧ σ = σ') := by
  have h8 := (ok.len hl).2.2
  have hn := ok.n
  have hA1 := ahv_ge ok (fun s => (hb s).1) l (p + 1)
  have hA2 := ahv_le ok hl (M := 20000000) (by omega) (fun s => (hb s).2) (p + 1)
  unfold fX7_boardingAt fX7_at
  rw [bnd_eq]
  refine rI (8 * l + (p + 1)) (by omega) (by omega) ?_
  rw [hA]
  refine wp_jn ?_
  refine jLe (fun h => ?_) (fun h => ?_)
  · refine wp_bnd _ (r_time ok hl hR hp) ?_
    rintro r s' ⟨rfl, rfl⟩
    exact wp_some ⟨by unfold bda pls; rw [if_neg (by omega)], rfl⟩
  · exact wp_some ⟨by unfold bda pls; rw [if_pos (by omega)], rfl⟩
def AbL (V : Mem) (c : Nat → Int) (σ : Mem) (l : Nat) : Prop := ∀ p, p < ln V l → σ 348 (8 * l + p) = ahv V c l p ∧ σ 349 (8 * l + p) = alv V c l p
theorem r_aboardOf {Q : Int → Mem → Prop} {k : Mem → PR} (ok : OkN V) (hfu : 1000 < fu) (hR : Ref V σ) (h37 : -1 ≤ V 328 37 ∧ V 328 37 ≤ 95) (hb : ∀ s, -1 ≤ c s ∧ c s ≤ 20000000) (hc : ∀ s, s < 10 → σ 347 s = c s) (hl : l < nn V)
    (hk : ∀ s2, AbL V c s2 l → (∀ k j, ((k = 348 ∨ k = 349) ∧ 8 * l ≤ j ∧ j < 8 * l + 8) ∨ s2 k j = σ k j) → wp (k s2) Q) : wp (fX7_laysAboard_L19 fu (l : Int) k fu (V 330 l - 1) σ) Q := by
  have h8 := ok.len hl
  have hn := ok.n
  refine down1 (f := fX7_laysAboard_L19 fu (l : Int) k) (ln V l) (fun i s2 => (∀ p, i ≤ p → p < ln V l → s2 348 (8 * l + p) = ahv V c l p ∧ s2 349 (8 * l + p) = alv V c l p) ∧ (∀ k j, ((k = 348 ∨ k = 349) ∧ 8 * l ≤ j ∧ j < 8 * l + 8) ∨ s2 k j = σ k j)) ?_ ?_ (i := ln V l) ⟨fun p h1 h2 => by omega, fun k j => Or.inr rfl⟩ (by omega)
  · intro n i s2 hi ⟨j1, j2⟩ hrec
    have hR2 : Ref V s2 := ⟨fun j hj => by rw [← hR.1 j hj]; have := j2 328 j; omega, fun k j h1 h2 => by rw [← hR.2 k j h1 h2]; have := j2 k j; omega⟩
    have hst := ok.st hl hi
    have hcl := (ok.2.2.2.2.1 _ hst.2).2
    have hO := offv_ge (V := V) (fun s => (hb s).1) l i
    have hO2 : offv V c l i ≤ 20000000 := by unfold offv; split; omega; exact (hb _).2
    have hB := bda_ge (c := c) ok l i
    have hB2 := bda_le ok hl (M := 20000000) (by omega) (fun s => (hb s).2) i
    have hc2 : s2 347 (sp V l i) = c (sp V l i) := by rw [← hc _ hst.2]; have := j2 347 (sp V l i); omega
    have h01 := alv_01 (V := V) (c := c) (l := l) (p := i)
    have hal := ahv_al (V := V) (c := c) hi
    rw [fX7_laysAboard_L19]
    refine iLt0 (fun h => by omega) (fun _ => ?_)
    unfold fX7_at
    rw [bnd_eq]
    refine rI (8 * l + i) (by omega) (by omega) ?_
    rw [hR2.2 331 _ (by omega) (by omega)]
    refine rI (sp V l i) hst.1.symm hst.2 ?_
    rw [hR2.2 339 _ (by omega) (by omega)]
    refine wp_ji (fun x s' => x = offv V c l i ∧ s2 = s') ?_ ?_
    · rintro x s' ⟨rfl, rfl⟩
      refine rI l rfl (by omega) ?_
      rw [hR2.2 330 _ (by omega) (by omega)]
      refine wp_ji (fun x s' => x = bda V c l i ∧ s2 = s') ?_ ?_
      · rintro x s' ⟨rfl, rfl⟩
        rw [bnd_eq]
        refine wp_ji (fun x s' => x = alv V c l i ∧ s2 = s') ?_ ?_
        · rintro x s' ⟨rfl, rfl⟩
          refine wI (8 * l + i) (by omega) (by omega) ?_
          rw [bnd_eq, bnd_eq]
          refine rI (8 * l + i) (by omega) (by omega) ?_
          rw [ms_eq]
          have hn1 : n1 (alv V c l i) = alv V c l i := by
            rcases h01 with e | e <;> rw [e]
            · exact n1_0
            · exact n1_1
          rw [hn1]
          refine wp_ji (fun x s' => x = ahv V c l i ∧ mset s2 349 (8 * l + i) (alv V c l i) = s') ?_ ?_
          · rintro x s' ⟨rfl, rfl⟩
            refine wI (8 * l + i) (by omega) (by omega) ?_
            refine hrec _ ⟨fun p h1 h2 => ?_, fun k j => ?_⟩
            · by_cases e : p = i
              · subst e
                rw [ms_eq, ms_k (by omega), ms_eq]; exact ⟨rfl, rfl⟩
              · rw [ms_j (by omega), ms_j (by omega), ms_j (by omega), ms_j (by omega)]
                exact j1 p (by omega) h2
            · by_cases e : (k = 348 ∨ k = 349) ∧ 8 * l ≤ j ∧ j < 8 * l + 8
              · exact Or.inl e
              · rw [mset_eq, if_neg (by omega), mset_eq, if_neg (by omega)]; exact j2 k j
          · intro j hj
            refine iEq0 (fun h => ?_) (fun h => ?_)
            · rw [if_pos h] at hal; exact hj _ _ ⟨hal.symm, rfl⟩
            · rw [if_neg h] at hal; exact hj _ _ ⟨hal.symm, rfl⟩
        · intro j hj
          refine wp_jn ?_
          refine jLt (fun h => ?_) (fun h => ?_)
          · exact hj _ _ ⟨by unfold alv; rw [if_neg (by omega)], rfl⟩
          · refine wp_jn ?_
            refine jLt (fun h => ?_) (fun h => ?_)
            · exact hj _ _ ⟨by unfold alv; rw [if_pos (by omega)], rfl⟩
            · refine jLt (fun h => ?_) (fun h => ?_)
              · exact hj _ _ ⟨by unfold alv; rw [if_neg (by omega)], rfl⟩
              · exact hj _ _ ⟨by unfold alv; rw [if_pos (by omega)], rfl⟩
      · intro j hj
        refine iLe (fun h => ?_) (fun h => ?_)
        · exact hj _ _ ⟨by unfold bda pls; rw [ahv_end (by omega), if_pos (by omega)], rfl⟩
        · refine wp_bnd _ (r_bAt ok hl hR2 (by omega) hb (j1 (i + 1) (by omega) (by omega)).1) ?_
          rintro r s' ⟨rfl, rfl⟩
          exact hj _ _ ⟨rfl, rfl⟩
    · intro j hj
      refine wp_jn ?_
      refine iNe0 (fun h => ?_) (fun h => ?_)
      · exact hj _ _ ⟨by unfold offv; rw [if_pos (Or.inl h)], rfl⟩
      · rw [bnd_eq, hR2.j (by omega)]
        refine iNe (fun h2 => ?_) (fun h2 => ?_)
        · refine rI (sp V l i) hst.1.symm hst.2 ?_
          exact hj _ _ ⟨by unfold offv; rw [if_neg (by omega), hc2], rfl⟩
        · exact hj _ _ ⟨by unfold offv; rw [if_pos (by omega)], rfl⟩
  · intro n s2 ⟨j1, j2⟩
    rw [fX7_laysAboard_L19]
    refine iLt0 (fun _ => ?_) (fun h => by omega)
    exact hk s2 (fun p hp => j1 p (by omega) hp) j2
theorem r_aboard (ok : OkN V) (hfu : 1000 < fu) (hR : Ref V σ) (h37 : -1 ≤ V 328 37 ∧ V 328 37 ≤ 95) (hb : ∀ s, -1 ≤ c s ∧ c s ≤ 20000000) (hc : ∀ s, s < 10 → σ 347 s = c s) : wp (fX7_laysAboard fu σ) (fun _ σ' => (∀ l, l < nn V → AbL V c σ' l) ∧ ∀ k j, k = 348 ∨ k = 349 ∨ σ' k j = σ k j) := by
  have hn := ok.n
  unfold fX7_laysAboard
  refine for1 (f := fX7_laysAboard_L2 fu _) (nn V) (fun i s2 => (∀ l, l < i → AbL V c s2 l) ∧ ∀ k j, k = 348 ∨ k = 349 ∨ s2 k j = σ k j) ?_ ?_ (i := 0) ⟨fun l hl => by omega, fun k j => Or.inr (Or.inr rfl)⟩
  · intro n i s2 hi ⟨j1, j2⟩ hrec
    have hR2 : Ref V s2 := ⟨fun j hj => by rw [← hR.1 j hj]; have := j2 328 j; omega, fun k j h1 h2 => by rw [← hR.2 k j h1 h2]; have := j2 k j; omega⟩
    rw [fX7_laysAboard_L2]
    rw [hR2.j (by omega)]
    refine iLe (fun h => by omega) (fun _ => ?_)
    refine rI i rfl (by omega) ?_
    rw [hR2.2 330 _ (by omega) (by omega)]
    refine wp_lt ?_
    refine r_aboardOf ok hfu hR2 h37 hb (fun s hs => ?_) hi (fun s3 g1 g2 => ?_)
    · rw [← hc s hs]; have := j2 347 s; omega
    · refine hrec s3 ⟨fun l hl => ?_, fun k j => ?_⟩
      · by_cases e : l = i
        · rw [e]; exact g1
        · intro p hp
          have h8 := ok.len (show l < nn V by omega)
          have a := g2 348 (8 * l + p)
          have b := g2 349 (8 * l + p)
          have d := j1 l (by omega) p hp
          rw [a.resolve_left (by omega), b.resolve_left (by omega)]
          exact d
      · rcases g2 k j with d | d
        · omega
        · rw [d]; exact j2 k j
  · intro n s2 ⟨j1, j2⟩
    rw [fX7_laysAboard_L2]
    have e : s2 328 9 = V 328 9 := by rw [← hR.j (j := 9) (by omega)]; have := j2 328 9; omega
    rw [e]
    refine iLe (fun _ => ?_) (fun h => by omega)
    exact wp_some ⟨j1, j2⟩
theorem r_placeOf (ok : OkN V) (hfu : 1000 < fu) (hR : Ref V σ) (hl : l < nn V) (hs : s < 10) : wp (fX7_placeOf fu (l : Int) (s : Int) σ) (fun r σ' => r = (if plc V l s < ln V l then (plc V l s : Int) else -1) ∧ σ = σ') := by
  have h8 := ok.len hl
  have hn := ok.n
  have hple := plc_le (V := V) (l := l) (s := s)
  unfold fX7_placeOf
  refine for1 (f := fX7_placeOf_L2 fu (l : Int) (s : Int) _ _) (plc V l s) (fun i s2 => σ = s2) ?_ ?_ (i := 0) rfl
  · rintro n i s2 hi rfl hrec
    have hst := ok.st hl (show i < ln V l by omega)
    have hne := plc_no hi
    rw [fX7_placeOf_L2]
    refine rI l rfl (by omega) ?_
    rw [hR.2 330 _ (by omega) (by omega)]
    refine iLe (fun h => by omega) (fun _ => ?_)
    unfold fX7_at
    rw [bnd_eq]
    refine rI (8 * l + i) (by omega) (by omega) ?_
    rw [hR.2 331 _ (by omega) (by omega)]
    refine iNe (fun _ => hrec _ rfl) (fun h => ?_)
    exact absurd (by omega) hne
  · rintro n s2 rfl
    rw [fX7_placeOf_L2]
    refine rI l rfl (by omega) ?_
    rw [hR.2 330 _ (by omega) (by omega)]
    refine iLe (fun h => ?_) (fun h => ?_)
    · exact wp_some ⟨by rw [if_neg (by omega)], rfl⟩
    · have hlt : plc V l s < ln V l := by omega
      have hst := ok.st hl hlt
      have he := plc_sp hlt
      unfold fX7_at
      rw [bnd_eq]
      refine rI (8 * l + plc V l s) (by omega) (by omega) ?_
      rw [hR.2 331 _ (by omega) (by omega)]
      refine iNe (fun h => absurd (by omega) h) (fun _ => ?_)
      exact wp_some ⟨by rw [if_pos hlt], rfl⟩
theorem r_boardable (ok : OkN V) (hfu : 1000 < fu) (hR : Ref V σ) (h37 : -1 ≤ V 328 37 ∧ V 328 37 ≤ 95) (hb : ∀ s, -1 ≤ c s ∧ c s ≤ 20000000) (hA : ∀ l, l < nn V → AbL V c σ l) (hl : l < nn V) (hs : s < 10) : wp (fX7_boardable fu (l : Int) (s : Int) σ) (fun r σ' => r = bdv V c s l ∧ σ = σ') := by
  have h8 := ok.len hl
  have hn := ok.n
  have hple := plc_le (V := V) (l := l) (s := s)
  have hout := (ok.ok hl).2.2.2.2.1
  unfold fX7_boardable
  refine wp_bnd _ (r_placeOf ok hfu hR hl hs) ?_
  rintro r s' ⟨rfl, rfl⟩
  refine rI l rfl (by omega) ?_
  rw [hR.2 337 _ (by omega) (by omega)]
  refine wp_jn (wp_jn ?_)
  refine iNe0 (fun h => ?_) (fun h => ?_)
  · exact wp_some ⟨by unfold bdv; rw [if_pos (Or.inl h)], rfl⟩
  · refine iEq (fun h2 => ?_) (fun h2 => ?_) (by split <;> omega)
    · refine wp_some ⟨?_, rfl⟩
      unfold bdv
      rw [if_pos]
      split at h2 <;> omega
    · have hlt : plc V l s < ln V l := by split at h2 <;> omega
      rw [if_pos hlt] at h2 ⊢
      refine rI l rfl (by omega) ?_
      rw [hR.2 330 _ (by omega) (by omega)]
      refine iEq (fun h3 => ?_) (fun h3 => ?_)
      · exact wp_some ⟨by unfold bdv; rw [if_pos (by omega)], rfl⟩
      · unfold fX7_at
        rw [bnd_eq, hR.j (by omega)]
        refine iNe (fun h4 => ?_) (fun h4 => ?_)
        · refine wp_bnd _ (r_bAt ok hl hR (by omega) hb (hA l hl _ (by omega)).1) ?_
          rintro r s' ⟨rfl, rfl⟩
          exact wp_some ⟨by unfold bdv; rw [if_neg (by omega)], rfl⟩
        · exact wp_some ⟨by unfold bdv; rw [if_pos (by omega)], rfl⟩
end RCOST
