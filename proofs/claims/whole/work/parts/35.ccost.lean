/-! ===== the class: rides of a line ===== -/
section CCOST
variable {V σ : Mem} {c : Nat → Int} {l P p s fu : Nat}
theorem c_time (ok : OkN V) (hl : l < nn V) (hL : LnAt V σ l P) (hp : p + 1 < ln V l) : wp (fX1_time fu P (p : Int) σ) (fun r σ' => r = tmv V l p ∧ σ = σ') := by
  have h8 := (ok.len hl).2.2
  have ht := (ok.tm1 hl hp).2
  have h7 := hL.2.2.2.2.2.2 p hp
  unfold fX1_time
  refine rI p rfl (by omega) ?_
  refine rI p rfl (by omega) ?_
  exact wp_some ⟨by rw [h7.1, h7.2.1, ht], rfl⟩
def Rides (V : Mem) (c : Nat → Int) (σ : Mem) (l P : Nat) : Prop := ∀ p, p < ln V l → σ (P + 5) p = ahv V c l p ∧ σ (P + 6) p = bda V c l p ∧ σ (P + 7) p = alv V c l p
theorem c_findRides (ok : OkN V) (hfu : 1000 < fu) (hl : l < nn V) (hP : isL P) (hL : LnAt V σ l P) (hc : ∀ s, s < 10 → σ (283 + 4 * s) 2 = c s) (hb : ∀ s, -1 ≤ c s ∧ c s ≤ 20000000) (hoff : ∀ p, p < ln V l → offv V c l p = c (sp V l p)) :
    wp (fX1_findRides fu P σ) (fun _ σ' => Rides V c σ' l P ∧ ∀ k j, k = P + 5 ∨ k = P + 6 ∨ k = P + 7 ∨ σ' k j = σ k j) := by
  have h8 := ok.len hl
  have e1 : σ P 1 = V 330 l := hL.2.1
  unfold fX1_findRides
  refine wp_lt ?_
  refine down2 (f := fX1_findRides_L9 fu P _) (ln V l) (fun i a s => a = ahv V c l i ∧ (∀ p, i ≤ p → p < ln V l → s (P + 5) p = ahv V c l p ∧ s (P + 6) p = bda V c l p ∧ s (P + 7) p = alv V c l p) ∧ ∀ k j, k = P + 5 ∨ k = P + 6 ∨ k = P + 7 ∨ s k j = σ k j) ?_ ?_ (i := ln V l) ?_ (by omega)
  · intro n i a s hi hJ hrec
    obtain ⟨ha, hcell, hfr⟩ := hJ
    have hA := ahv_ge ok (fun s => (hb s).1) l (i + 1)
    have hA2 := ahv_le ok hl (M := 20000000) (by omega) (fun s => (hb s).2) (i + 1)
    have hB := bda_ge (c := c) ok l i
    have hB2 := bda_le ok hl (M := 20000000) (by omega) (fun s => (hb s).2) i
    have hst := ok.st hl hi
    have hoi := hoff i hi
    have hci := hb (sp V l i)
    have hLs : LnAt V s l P := ln_mv hL hP (fun k j h1 h2 => by have := hfr k j; omega)
    rw [fX1_findRides_L9]
    refine iLt0 (fun h => by omega) (fun _ => ?_)
    refine wp_ji (fun x s' => x = bda V c l i ∧ s = s') ?_ ?_
    · rintro x s' ⟨rfl, rfl⟩
      refine rI i rfl (by omega) ?_
      rw [hLs.2.2.2.2.2.1 i hi]
      refine rS (sp V l i) hst.1.symm hst.2 ?_
      refine wp_lt ?_
      rw [show s (283 + 4 * sp V l i) 2 = c (sp V l i) by rw [← hc _ hst.2]; have := hfr (283 + 4 * sp V l i) 2; omega]
      refine wp_ji (fun x s' => x = alv V c l i ∧ s = s') ?_ ?_
      · rintro x s' ⟨rfl, rfl⟩
        refine wp_ji (fun x s' => x = ahv V c l i ∧ s = s') ?_ ?_
        · rintro x s' ⟨rfl, rfl⟩
          refine wI i rfl (by omega) ?_
          refine wI i rfl (by omega) ?_
          refine wI i rfl (by omega) ?_
          refine hrec _ _ ⟨rfl, fun p h1 h2 => ?_, fun k j => ?_⟩
          · by_cases hpi : p = i
            · subst hpi
              rw [ms_k (by omega), ms_eq, ms_k (by omega), ms_k (by omega), ms_eq, ms_eq]
              refine ⟨rfl, rfl, ?_⟩
              rcases alv_01 (V := V) (c := c) (l := l) (p := p) with e | e <;> rw [e]
              · exact n1_0
              · exact n1_1
            · rw [ms_j hpi, ms_j hpi, ms_j hpi, ms_j hpi, ms_j hpi, ms_j hpi, ms_j hpi, ms_j hpi, ms_j hpi]
              exact hcell p (by omega) h2
          · by_cases e1 : k = P + 5
            · exact Or.inl e1
            · by_cases e2 : k = P + 6
              · exact Or.inr (Or.inl e2)
              · by_cases e3 : k = P + 7
                · exact Or.inr (Or.inr (Or.inl e3))
                · rw [ms_k e3, ms_k e1, ms_k e2]; exact hfr k j
        · intro j hj
          have e := ahv_al (V := V) (c := c) hi
          have h01 := alv_01 (V := V) (c := c) (l := l) (p := i)
          refine iEq0 (fun h => ?_) (fun h => ?_)
          · rw [if_pos h] at e; exact hj _ _ ⟨e.symm, rfl⟩
          · rw [if_neg h, hoi] at e; exact hj _ _ ⟨e.symm, rfl⟩
      · intro j hj
        have e : alv V c l i = if 0 ≤ c (sp V l i) ∧ (bda V c l i < 0 ∨ c (sp V l i) ≤ bda V c l i) then 1 else 0 := by unfold alv; rw [hoi]
        refine wp_jn ?_
        refine iEq (fun h => ?_) (fun h => ?_)
        · exact hj _ _ ⟨by rw [e, if_neg (by omega)], rfl⟩
        · refine wp_jn ?_
          refine iEq (fun h2 => ?_) (fun h2 => ?_)
          · exact hj _ _ ⟨by rw [e, if_pos (by omega)], rfl⟩
          · refine iLt (fun h3 => ?_) (fun h3 => ?_)
            · exact hj _ _ ⟨by rw [e, if_neg (by omega)], rfl⟩
            · exact hj _ _ ⟨by rw [e, if_pos (by omega)], rfl⟩
    · intro j hj
      refine iNe (fun h => ?_) (fun h => ?_)
      · have hi1 : i + 1 < ln V l := by
          rcases Nat.lt_or_ge (i + 1) (ln V l) with g | g
          · exact g
          · rw [ha, ahv_end g] at h; exact absurd rfl h
        refine wp_bnd _ (c_time ok hl hLs hi1) ?_
        rintro r s' ⟨rfl, rfl⟩
        refine hj _ _ ⟨?_, rfl⟩
        unfold bda pls
        rw [if_neg (by omega), ha]
      · refine hj _ _ ⟨?_, rfl⟩
        unfold bda pls
        rw [if_pos (by omega)]
  · intro n a s hJ
    rw [fX1_findRides_L9]
    refine iLt0 (fun _ => ?_) (fun h => by omega)
    exact wp_some ⟨fun p hp => hJ.2.1 p (Nat.zero_le _) hp, hJ.2.2⟩
  · exact ⟨(ahv_end (Nat.le_refl _)).symm, fun p h1 h2 => by omega, fun k j => Or.inr (Or.inr (Or.inr rfl))⟩
end CCOST
