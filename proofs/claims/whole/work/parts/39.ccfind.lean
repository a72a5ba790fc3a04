/-! ===== the class: all rounds ===== -/
section CCFIND
variable {V σ : Mem} {c : Nat → Int} {l P p s fu : Nat}
def CostC (V σ : Mem) : Prop := (∀ s, s < 10 → σ (283 + 4 * s) 2 = cv V s ∧ TakS V (cv V) σ s) ∧ (∀ l, l < nn V → Rides V (cv V) σ l (PL σ l)) ∧ σ 136 7 = (rdv V : Int) + 1
theorem itr_ok (ok : OkN V) {r : Nat} (hr : r ≤ 11) : CstOk V (itr (Tv V) (c0v V) r) := by
  refine ⟨fun s => ?_, fun s hs h => ?_⟩
  · have := itr_b ok r s; omega
  · cases r with
    | zero => rfl
    | succ r => simp only [itr]; unfold Tv; rw [if_pos (Or.inr h)]
theorem cv_ok (ok : OkN V) : CstOk V (cv V) := itr_ok ok (by have := (rv_is ok).1; omega)
theorem c_rounds {Q : Int → Mem → Prop} {k : Mem → PR} (ok : OkN V) (hfu : 1000 < fu) (hC : Cls V σ) (h37 : V 328 37 = -1) (hk : ∀ s2, CostC V s2 → CP σ s2 → wp (k s2) Q) :
    ∀ (fuel r : Nat) (x : Int) (s2 : Mem), r ≤ rdv V + 1 → 20 - r < fuel → CP σ s2 → s2 136 7 = (r : Int) → (∀ s, s < 10 → s2 (283 + 4 * s) 2 = itr (Tv V) (c0v V) r s) → (x = 0 ∨ x = 1) → (x = 0 ↔ r = rdv V + 1) → (x = 0 → (∀ s, s < 10 → TakS V (cv V) s2 s) ∧ (∀ l, l < nn V → Rides V (cv V) s2 l (PL s2 l))) → wp (fX2_findCosts_L55 fu k fuel x s2) Q := by
  have hR := rv_is ok
  intro fuel
  induction fuel with
  | zero => intro r x s2 _ h; omega
  | succ n ih =>
    intro r x s2 hr hf hCP h7 hcs hx01 hx hdat
    rw [fX2_findCosts_L55]
    have hr10 := hR.1
    refine iEq0 (fun h => ?_) (fun h => ?_)
    · have e := hx.mp h
      refine hk s2 ⟨fun s hs => ⟨?_, (hdat h).1 s hs⟩, (hdat h).2, by rw [h7, e]; omega⟩ hCP
      rw [hcs s hs, e]; exact hR.2.1 s hs
    · have hr2 : r ≤ rdv V := by
        have : r ≠ rdv V + 1 := fun g => h (hx.mpr g)
        omega
      have hC2 := hC.mv ok hCP
      have hok := itr_ok ok (r := r) (by omega)
      refine iLe (fun h => by omega) (fun _ => ?_)
      refine wp_bnd _ (c_collect ok hfu hC2 h37 hok hcs) ?_
      intro _ s3 ⟨o1, o2, o3⟩
      have hC3 := hC2.mv ok o2
      refine wp_bnd _ (c_chooseAll ok hfu hC3 hok o1) ?_
      intro x4 s4 ⟨q0, q1, q2, q3⟩
      have hCP4 : CP s3 s4 := fun k j => by
        rcases q3 k j with d | d
        · left; omega
        · right; exact d
      refine wp_stf ?_
      have hCP5 : CP s4 (mset s4 136 7 (s4 136 7 + 1)) := (CP.refl s4).set (by omega)
      have hst : (∀ s, s < 10 → Tv V (itr (Tv V) (c0v V) r) s = itr (Tv V) (c0v V) r s) ↔ r = rdv V := by
        constructor
        · intro g
          rcases Nat.lt_or_ge r (rdv V) with a | a
          · exact absurd g (hR.2.2 r a)
          · omega
        · intro g; rw [g]; exact hR.2.1
      refine ih (r + 1) x4 _ (by omega) (by omega) (((hCP.trans o2).trans hCP4).trans hCP5) ?_ (fun s hs => ?_) q0 ?_ (fun e => ?_)
      · rw [ms_eq]
        have := q3 136 7
        omega
      · rw [ms_k (by omega)]; exact (q2 s hs).1
      · rw [q1, hst]; omega
      · have er : r = rdv V := hst.mp (q1.mp e)
        have ec : itr (Tv V) (c0v V) r = cv V := by rw [er]; rfl
        rw [ec] at q2 o1
        refine ⟨fun s hs => ?_, fun l hl => ?_⟩
        · obtain ⟨t1, t2, t3⟩ := (q2 s hs).2
          unfold TakS
          rw [ms_k (by omega), ms_k (by omega)]
          refine ⟨t1, t2, fun i hi => ?_⟩
          rw [ms_k (by omega), ms_k (by omega)]
          exact t3 i hi
        · have e1 := (hCP5.tab (hC3.mv ok hCP4).1).2.1 l
          have e2 := (hCP4.tab hC3.1).2.1 l
          have hPl := hC3.isL ok hl
          rw [e1, e2]
          exact (o1.2 l hl).mv (fun k j h1 h2 => by rw [ms_k (by omega)]; have := q3 k j; omega)
theorem c_findCosts (ok : OkN V) (hfu : 1000 < fu) (hC : Cls V σ) (h37 : V 328 37 = -1) : wp (fX2_findCosts fu σ) (fun _ σ' => CostC V σ' ∧ CP σ σ') := by
  have hgl := ok.go
  unfold fX2_findCosts
  refine for1 (f := fX2_findCosts_L2 fu _) 10 (fun i s2 => (∀ s, s < i → s2 (283 + 4 * s) 2 = c0v V s) ∧ (∀ k j, (283 ≤ k ∧ k < 323 ∧ (k - 283) % 4 = 0 ∧ j = 2) ∨ s2 k j = σ k j)) ?_ ?_ (i := 0) ⟨fun s hs => by omega, fun k j => Or.inr rfl⟩
  · intro n i s2 hi ⟨j1, j2⟩ hrec
    have e4 : s2 136 4 = V 328 11 := by rw [← hC.2.2.2.1]; have := j2 136 4; omega
    have e1 : s2 (283 + 4 * i) 1 = V 339 i := by rw [← (hC.2.2.2.2.2.2.1 i hi).2]; have := j2 (283 + 4 * i) 1; omega
    have h01 := (ok.2.2.2.2.1 i hi).2
    rw [fX2_findCosts_L2]
    refine iLe (fun h => by omega) (fun _ => ?_)
    refine rS i rfl hi ?_
    refine wp_ji (fun x s' => x = c0v V i ∧ s2 = s') ?_ ?_
    · rintro x s' ⟨rfl, rfl⟩
      refine wp_stf ?_
      refine hrec _ ⟨fun s hs => ?_, fun k j => ?_⟩
      · by_cases e : s = i
        · rw [e, ms_eq]
        · rw [ms_k (by omega)]; exact j1 s (by omega)
      · by_cases e : k = 283 + 4 * i ∧ j = 2
        · left; omega
        · rw [mset_eq, if_neg e]; exact j2 k j
    · intro j hj
      refine wp_jn ?_
      refine iNe (fun h => ?_) (fun h => ?_)
      · exact hj _ _ ⟨by unfold c0v; rw [if_neg (by omega)], rfl⟩
      · refine rS i rfl hi ?_
        rw [e1]
        refine iNe0 (fun h2 => ?_) (fun h2 => ?_)
        · exact hj _ _ ⟨by unfold c0v; rw [if_neg (by omega)], rfl⟩
        · exact hj _ _ ⟨by unfold c0v; rw [if_pos (by omega)], rfl⟩
  · intro n s2 ⟨j1, j2⟩
    rw [fX2_findCosts_L2]
    refine iLe (fun _ => ?_) (fun h => by omega)
    refine wp_stf ?_
    have hCP : CP σ (mset s2 136 7 0) := by
      refine CP.set (fun k j => ?_) (by omega)
      rcases j2 k j with d | d
      · left; omega
      · right; exact d
    refine c_rounds ok hfu hC h37 (fun s3 g1 g2 => wp_some ⟨g1, g2⟩) fu 0 1 _ (by omega) (by omega) hCP (by rw [ms_eq]; rfl) (fun s hs => ?_) (Or.inr rfl) (by omega) (fun h => by omega)
    rw [ms_k (by omega)]; exact j1 s hs
end CCFIND
