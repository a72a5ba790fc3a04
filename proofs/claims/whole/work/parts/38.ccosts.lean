/-! ===== the class: a round, and all rounds ===== -/
section CCOSTS
variable {V σ : Mem} {c : Nat → Int} {l P p s fu : Nat}
def FrO (σ σ' : Mem) : Prop := ∀ k j, (283 ≤ k ∧ k < 323 ∧ ((k - 283) % 4 ≠ 0 ∨ j = 3)) ∨ σ' k j = σ k j
theorem OffS.mv {σ' : Mem} {L : List (Int × Nat)} (h : OffS V σ s L) (e0 : σ' (283 + 4 * s) 3 = σ (283 + 4 * s) 3) (e : ∀ k j, 283 + 4 * s < k → k ≤ 283 + 4 * s + 3 → σ' k j = σ k j) : OffS V σ' s L := by
  refine ⟨by rw [e0]; exact h.1, fun i hi => ?_⟩
  rw [e _ _ (by omega) (by omega), e _ _ (by omega) (by omega), e _ _ (by omega) (by omega)]
  exact h.2 i hi
theorem Rides.mv {σ' : Mem} (h : Rides V c σ l P) (e : ∀ k j, P + 5 ≤ k → k ≤ P + 7 → σ' k j = σ k j) : Rides V c σ' l P := by
  intro p hp
  rw [e _ _ (by omega) (by omega), e _ _ (by omega) (by omega), e _ _ (by omega) (by omega)]
  exact h p hp
theorem c_offersOf {Q : Int → Mem → Prop} {k : Mem → PR} (ok : OkN V) (hfu : 1000 < fu) (hl : l < nn V) (hP : isL P) (hL : LnAt V σ l P) (hR : Rides V c σ l P) (hb : ∀ s, -1 ≤ c s ∧ c s ≤ 20000000) (h37 : V 328 37 = -1) (hO : ∀ s, s < 10 → OffS V σ s (ofl V c s l)) (hst : ∀ s, s < 10 → σ (283 + 4 * s) 1 = V 339 s) (hg : σ 136 4 = V 328 11)
    (hk : ∀ s2, (∀ s, s < 10 → OffS V s2 s (ofl V c s (l + 1))) → FrO σ s2 → wp (k s2) Q) : wp (fX2_collectOffers_L50 fu (l : Int) P k fu 0 σ) Q := by
  have h8 := ok.len hl
  have hn := ok.n
  have hgl := ok.go
  have h330 := (ok.ok hl).2.1
  have h337 := (ok.ok hl).2.2.2.2.1
  have hnext : ∀ s, ofl V c s (l + 1) = if s = gl V ∨ V 339 s ≠ 0 ∨ bdv V c s l < 0 then ofl V c s l else insB (bdv V c s l, l) (ofl V c s l) := by
    intro s
    unfold ofl
    by_cases h : s = gl V ∨ V 339 s ≠ 0
    · rw [if_pos h, if_pos (by omega), if_pos h]
    · rw [if_neg h, if_neg h]
      by_cases h2 : bdv V c s l < 0
      · rw [if_pos (by omega)]; simp only [bset]; rw [if_pos h2]
      · rw [if_neg (by omega)]; simp only [bset]; rw [if_neg h2]
  have hbv : ∀ s, bdv V c s l = if V 337 l ≠ 0 ∨ ln V l ≤ plc V l s + 1 then -1 else bda V c l (plc V l s) := by
    intro s
    unfold bdv
    by_cases h : V 337 l ≠ 0 ∨ ln V l ≤ plc V l s + 1
    · rw [if_pos h, if_pos (by omega)]
    · rw [if_neg h, if_neg (by omega)]
  by_cases hout : V 337 l = 0
  · refine for1 (f := fX2_collectOffers_L50 fu (l : Int) P k) (ln V l - 1) (fun i s2 => (∀ s, s < 10 → OffS V s2 s (if plc V l s < i then ofl V c s (l + 1) else ofl V c s l)) ∧ FrO σ s2) ?_ ?_ (i := 0) ?_
    · intro n i s2 hi ⟨j1, j2⟩ hrec
      have e1 : s2 P 1 = V 330 l := by rw [← hL.2.1]; have := j2 P 1; omega
      have e4 : s2 P 4 = V 337 l := by rw [← hL.2.2.2.2.1]; have := j2 P 4; omega
      have e11 : s2 136 4 = V 328 11 := by rw [← hg]; have := j2 136 4; omega
      have hsp := ok.st hl (show i < ln V l by omega)
      have hpl : plc V l (sp V l i) = i := plc_at ok hl (by omega) rfl
      have eS : s2 (P + 1) i = V 331 (8 * l + i) := by rw [← hL.2.2.2.2.2.1 i (by omega)]; have := j2 (P + 1) i; omega
      have eB : s2 (P + 6) i = bda V c l i := by rw [← (hR i (by omega)).2.1]; have := j2 (P + 6) i; omega
      have eC : s2 (283 + 4 * sp V l i) 1 = V 339 (sp V l i) := by rw [← hst _ hsp.2]; have := j2 (283 + 4 * sp V l i) 1; omega
      have hB := bda_ge (c := c) ok l i
      have hB2 := bda_le ok hl (M := 20000000) (by omega) (fun s => (hb s).2) i
      have hc01 := (ok.2.2.2.2.1 _ hsp.2).2
      have hbvi : bdv V c (sp V l i) l = bda V c l i := by rw [hbv, if_neg (by rw [hpl]; omega), hpl]
      -- nothing comes of it
      have hnone : (sp V l i = gl V ∨ V 339 (sp V l i) ≠ 0 ∨ bda V c l i < 0) → wp (fX2_collectOffers_L50 fu (l : Int) P k n ((i : Int) + 1) s2) Q := by
        intro h
        refine hrec s2 ⟨fun s hs => ?_, j2⟩
        have := j1 s hs
        by_cases e : s = sp V l i
        · subst e
          rw [hpl, if_neg (by omega)] at this
          rw [hpl, if_pos (by omega), hnext, hbvi, if_pos h]
          exact this
        · have hne : plc V l s ≠ i := fun g => e (by rw [← g]; exact (plc_sp (by omega)).symm)
          by_cases e2 : plc V l s < i
          · rw [if_pos e2] at this; rw [if_pos (by omega)]; exact this
          · rw [if_neg e2] at this; rw [if_neg (by omega)]; exact this
      rw [fX2_collectOffers_L50]
      refine iLe (fun h => by omega) (fun _ => ?_)
      refine iNe0 (fun h => absurd (by omega) h) (fun _ => ?_)
      refine rI i rfl (by omega) ?_
      refine rI i rfl (by omega) ?_
      rw [eS, eB]
      refine wp_jn ?_
      refine iEq (fun h => hnone (by omega)) (fun h1 => ?_)
      refine iEq (fun h => hnone (by omega)) (fun h2 => ?_)
      refine rS (sp V l i) hsp.1.symm hsp.2 ?_
      rw [eC]
      refine iNe0 (fun h => hnone (by omega)) (fun h3 => ?_)
      refine rS (sp V l i) hsp.1.symm hsp.2 ?_
      refine rI i rfl (by omega) ?_
      rw [eB]
      have hOi := j1 _ hsp.2
      rw [hpl, if_neg (by omega)] at hOi
      have hlen := ofl_len (V := V) (c := c) (s := sp V l i) (k := l)
      refine wp_bnd _ (c_offer hfu hsp.2 ofl_srt (by omega) hOi (fun x hx => ?_) (b := bda V c l i) ⟨by omega, by omega⟩ hpl) ?_
      · have hx := ofl_mem hx
        have := bdv_le ok (show x.2 < nn V by omega) (M := 20000000) (by omega) (fun s => (hb s).2) (sp V l i)
        omega
      · intro r s3 ⟨g1, g2⟩
        refine hrec s3 ⟨fun s hs => ?_, fun x j => ?_⟩
        · by_cases e : s = sp V l i
          · subst e
            rw [hpl, if_pos (by omega), hnext, hbvi, if_neg (by omega)]
            exact g1
          · have hne : plc V l s ≠ i := fun g => e (by rw [← g]; exact (plc_sp (by omega)).symm)
            have := (j1 s hs).mv (σ' := s3) (by have := g2 (283 + 4 * s) 3; omega) (fun x j h1 h2 => by have := g2 x j; omega)
            by_cases e2 : plc V l s < i
            · rw [if_pos e2] at this; rw [if_pos (by omega)]; exact this
            · rw [if_neg e2] at this; rw [if_neg (by omega)]; exact this
        · have a := j2 x j
          have b := g2 x j
          omega
    · intro n s2 ⟨j1, j2⟩
      have e1 : s2 P 1 = V 330 l := by rw [← hL.2.1]; have := j2 P 1; omega
      rw [fX2_collectOffers_L50]
      refine iLe (fun _ => ?_) (fun h => by omega)
      refine hk s2 (fun s hs => ?_) j2
      have := j1 s hs
      by_cases e : plc V l s < ln V l - 1
      · rw [if_pos e] at this; exact this
      · rw [if_neg e] at this
        rw [hnext, hbv, if_pos (show V 337 l ≠ 0 ∨ ln V l ≤ plc V l s + 1 by omega), if_pos (by omega)]
        exact this
    · exact ⟨fun s hs => by rw [if_neg (by omega)]; exact hO s hs, fun k j => Or.inr rfl⟩
  · obtain ⟨m, hm⟩ : ∃ m, fu = m + 1 := ⟨fu - 1, by omega⟩
    have hfin : wp (k σ) Q := by
      refine hk σ (fun s hs => ?_) (fun k j => Or.inr rfl)
      rw [hnext, hbv, if_pos (Or.inl hout), if_pos (by omega)]
      exact hO s hs
    have e1 := hL.2.1
    have e4 := hL.2.2.2.2.1
    have : wp (fX2_collectOffers_L50 fu (l : Int) P k (m + 1) 0 σ) Q := by
      rw [fX2_collectOffers_L50]
      refine iLe (fun _ => hfin) (fun _ => ?_)
      exact iNe0 (fun _ => hfin) (fun h => absurd (by omega) hout)
    rw [← hm] at this
    exact this
/-- what a round finds in the class -/
def OffAll (V : Mem) (c : Nat → Int) (σ : Mem) : Prop := (∀ s, s < 10 → OffS V σ s (ofl V c s (nn V)) ∧ σ (283 + 4 * s) 2 = c s ∧ σ (283 + 4 * s) 4 = 0 ∧ σ (283 + 4 * s) 5 = 0) ∧ (∀ l, l < nn V → Rides V c σ l (PL σ l))
def CstOk (V : Mem) (c : Nat → Int) : Prop := (∀ s, -1 ≤ c s ∧ c s ≤ 20000000) ∧ (∀ s, s < 10 → s = gl V ∨ V 339 s ≠ 0 → c s = c0v V s)
theorem CstOk.cl (h : CstOk V c) (hs : s < 10) (hc : V 339 s ≠ 0) : c s = -1 := by
  rw [h.2 s hs (Or.inr hc)]; unfold c0v; rw [if_neg (fun g => hc g.2)]
theorem CstOk.off (h : CstOk V c) (ok : OkN V) (h37 : V 328 37 = -1) (hl : l < nn V) (hp : p < ln V l) : offv V c l p = c (sp V l p) := by
  unfold offv
  split
  · rename_i g
    rcases g with g | g
    · exact (h.cl (ok.st hl hp).2 g).symm
    · omega
  · rfl
theorem c_collect (ok : OkN V) (hfu : 1000 < fu) (hC : Cls V σ) (h37 : V 328 37 = -1) (hok : CstOk V c) (hcs : ∀ s, s < 10 → σ (283 + 4 * s) 2 = c s) : wp (fX2_collectOffers fu σ) (fun _ σ' => OffAll V c σ' ∧ CP σ σ' ∧ σ' 136 7 = σ 136 7) := by
  have hn := ok.n
  unfold fX2_collectOffers
  refine for1 (f := fX2_collectOffers_L2 fu _) 10 (fun i s2 => (∀ s, s < i → s2 (283 + 4 * s) 3 = 0 ∧ s2 (283 + 4 * s) 4 = 0 ∧ s2 (283 + 4 * s) 5 = 0) ∧ (∀ k j, (283 ≤ k ∧ k < 323 ∧ (k - 283) % 4 = 0 ∧ 3 ≤ j ∧ j ≤ 5) ∨ s2 k j = σ k j)) ?_ ?_ (i := 0) ⟨fun s hs => by omega, fun k j => Or.inr rfl⟩
  · intro n i s2 hi ⟨j1, j2⟩ hrec
    rw [fX2_collectOffers_L2]
    refine iLe (fun h => by omega) (fun _ => ?_)
    refine rS i rfl hi ?_
    unfold fX4_forgetOffers
    refine wp_bnd (fun _ s3 => s3 = mset (mset (mset s2 (283 + 4 * i) 3 0) (283 + 4 * i) 4 0) (283 + 4 * i) 5 0) (wp_stf (wp_stf (wp_stf (wp_some rfl)))) ?_
    rintro _ s3 rfl
    refine hrec _ ⟨fun s hs => ?_, fun k j => ?_⟩
    · by_cases e : s = i
      · subst e
        simp (disch := omega) only [ms_eq, ms_j, and_self]
      · simp (disch := omega) only [ms_k]
        exact j1 s (by omega)
    · by_cases e : k = 283 + 4 * i ∧ 3 ≤ j ∧ j ≤ 5
      · left; omega
      · rw [mset_eq, if_neg (by omega), mset_eq, if_neg (by omega), mset_eq, if_neg (by omega)]; exact j2 k j
  · intro n s1 ⟨j1, j2⟩
    rw [fX2_collectOffers_L2]
    refine iLe (fun _ => ?_) (fun h => by omega)
    have hCP1 : CP σ s1 := fun k j => by have := j2 k j; omega
    have hC1 : Cls V s1 := hC.mv ok hCP1
    have hPL1 : ∀ l, PL s1 l = PL σ l := (hCP1.tab hC.1).2.1
    have hcs1 : ∀ s, s < 10 → s1 (283 + 4 * s) 2 = c s := fun s hs => by rw [← hcs s hs]; have := j2 (283 + 4 * s) 2; omega
    clear hcs
    refine for1 (f := fX2_collectOffers_L25 fu _) (nn V) (fun i s2 => (∀ s, s < 10 → OffS V s2 s (ofl V c s i) ∧ s2 (283 + 4 * s) 2 = c s ∧ s2 (283 + 4 * s) 4 = 0 ∧ s2 (283 + 4 * s) 5 = 0) ∧ (∀ l, l < i → Rides V c s2 l (PL s1 l)) ∧ CP s1 s2 ∧ s2 136 7 = s1 136 7) ?_ ?_ (i := 0) ?_
    · intro n i s2 hi ⟨g1, g2, g3, g4⟩ hrec
      have hC2 : Cls V s2 := hC1.mv ok g3
      have hPL2 : ∀ l, PL s2 l = PL s1 l := (g3.tab hC1.1).2.1
      have hPi := hC1.isL ok hi
      rw [fX2_collectOffers_L25]
      have e1 := hC2.2.1
      refine iLe (fun h => by omega) (fun _ => ?_)
      refine wp_rfd ?_
      refine rR i rfl (by omega) ?_
      rw [show pl (s2 (pl (s2 136 0)) i) = PL s1 i from hPL2 i]
      have hLn := hC2.ln hi
      rw [hPL2] at hLn
      refine wp_bnd _ (c_findRides ok hfu hi hPi hLn (fun s hs => (g1 s hs).2.1) hok.1 (fun p hp => hok.off ok h37 hi hp)) ?_
      intro _ s3 ⟨r1, r2⟩
      have hLn3 : LnAt V s3 i (PL s1 i) := ln_mv hLn hPi (fun k j h1 h2 => by have := r2 k j; omega)
      refine c_offersOf ok hfu hi hPi hLn3 r1 hok.1 h37 (fun s hs => ?_) (fun s hs => ?_) ?_ ?_
      · exact (g1 s hs).1.mv (by have := r2 (283 + 4 * s) 3; omega) (fun k j h1 h2 => by have := r2 k j; omega)
      · rw [← (hC2.2.2.2.2.2.2.1 s hs).2]; have := r2 (283 + 4 * s) 1; omega
      · rw [← hC2.2.2.2.1]; have := r2 136 4; omega
      · intro s4 q1 q2
        refine hrec s4 ⟨fun s hs => ⟨q1 s hs, ?_, ?_, ?_⟩, fun l hl => ?_, fun k j => ?_, ?_⟩
        · rw [← (g1 s hs).2.1]; have := r2 (283 + 4 * s) 2; have := q2 (283 + 4 * s) 2; omega
        · rw [← (g1 s hs).2.2.1]; have := r2 (283 + 4 * s) 4; have := q2 (283 + 4 * s) 4; omega
        · rw [← (g1 s hs).2.2.2]; have := r2 (283 + 4 * s) 5; have := q2 (283 + 4 * s) 5; omega
        · by_cases e : l = i
          · subst e
            exact r1.mv (fun k j h1 h2 => by have := q2 k j; omega)
          · have hap := hC1.apart ok (show l < nn V by omega) hi e
            have hPl := hC1.isL ok (show l < nn V by omega)
            exact (g2 l (by omega)).mv (fun k j h1 h2 => by have := q2 k j; have := r2 k j; omega)
        · rcases r2 k j with e | e | e | e
          · left; omega
          · left; omega
          · left; omega
          · rcases q2 k j with d | d
            · left; omega
            · rw [d, e]; exact g3 k j
        · rw [← g4]; have := r2 136 7; have := q2 136 7; omega
    · intro n s2 ⟨g1, g2, g3, g4⟩
      have hC2 : Cls V s2 := hC1.mv ok g3
      rw [fX2_collectOffers_L25]
      have e1 := hC2.2.1
      refine iLe (fun _ => ?_) (fun h => by omega)
      refine wp_some ⟨⟨g1, fun l hl => ?_⟩, hCP1.trans g3, ?_⟩
      · rw [(g3.tab hC1.1).2.1]; exact g2 l hl
      · rw [g4]; have := j2 136 7; omega
    · refine ⟨fun s hs => ⟨⟨?_, fun i hi => ?_⟩, hcs1 s hs, (j1 s hs).2.1, (j1 s hs).2.2⟩, fun l hl => by omega, CP.refl _, rfl⟩
      · have : (ofl V c s 0).length = 0 := by have := ofl_len (V := V) (c := c) (s := s) (k := 0); omega
        rw [this, (j1 s hs).1]; rfl
      · have : (ofl V c s 0).length = 0 := by have := ofl_len (V := V) (c := c) (s := s) (k := 0); omega
        omega
def TakS (V : Mem) (c : Nat → Int) (σ : Mem) (s : Nat) : Prop := σ (283 + 4 * s) 4 = ((tk V c s).length : Int) ∧ σ (283 + 4 * s) 5 = fs V c s ∧ ∀ i, i < (tk V c s).length → σ (283 + 4 * s + 1) i = ((gtL (tk V c s) i).2 : Int) ∧ σ (283 + 4 * s + 2) i = (plc V (gtL (tk V c s) i).2 s : Int)
theorem tk_none (h : s = gl V ∨ V 339 s ≠ 0) : tk V c s = [] ∧ fs V c s = 0 := by
  unfold tk fs grv ofl; rw [if_pos h]; exact ⟨rfl, rfl⟩
theorem c_chooseAll (ok : OkN V) (hfu : 1000 < fu) (hC : Cls V σ) (hok : CstOk V c) (hOf : OffAll V c σ) : wp (fX2_chooseAll fu σ) (fun r σ' => (r = 0 ∨ r = 1) ∧ (r = 0 ↔ ∀ s, s < 10 → Tv V c s = c s) ∧ (∀ s, s < 10 → σ' (283 + 4 * s) 2 = Tv V c s ∧ TakS V c σ' s) ∧ (∀ k j, (283 ≤ k ∧ k < 323 ∧ (k - 283) % 4 = 0 ∧ (j = 2 ∨ j = 4 ∨ j = 5)) ∨ σ' k j = σ k j)) := by
  have hn := ok.n
  have hW := ok.2.1
  have hgl := ok.go
  have hbk := hok.1
  unfold fX2_chooseAll
  refine for2 (f := fX2_chooseAll_L4 fu _) 10 (fun i a s2 => (a = 0 ∨ a = 1) ∧ (a = 0 ↔ ∀ s, s < i → Tv V c s = c s) ∧ (∀ s, s < i → s2 (283 + 4 * s) 2 = Tv V c s ∧ s2 (283 + 4 * s) 4 = ((tk V c s).length : Int) ∧ s2 (283 + 4 * s) 5 = fs V c s) ∧ (∀ s, i ≤ s → s < 10 → s2 (283 + 4 * s) 2 = c s ∧ s2 (283 + 4 * s) 4 = 0 ∧ s2 (283 + 4 * s) 5 = 0) ∧ (∀ k j, (283 ≤ k ∧ k < 323 ∧ (k - 283) % 4 = 0 ∧ (j = 2 ∨ j = 4 ∨ j = 5)) ∨ s2 k j = σ k j)) ?_ ?_ (i := 0) ?_
  · intro n i a s2 hi ⟨g0, g1, g2, g3, g4⟩ hrec
    have hCP2 : CP σ s2 := fun k j => by have := g4 k j; omega
    have hC2 : Cls V s2 := hC.mv ok hCP2
    have e4 := hC2.2.2.2.1
    have ecl := (hC2.2.2.2.2.2.2.1 i hi).2
    have h01 := (ok.2.2.2.2.1 i hi).2
    have hb := hbk i
    have hgi := g3 i (Nat.le_refl _) hi
    have hskip : (i = gl V ∨ V 339 i ≠ 0) → wp (fX2_chooseAll_L4 fu (fun x9 s13 => rtz x9 s13) n a ((i : Int) + 1) s2) (fun r σ' => (r = 0 ∨ r = 1) ∧ (r = 0 ↔ ∀ s, s < 10 → Tv V c s = c s) ∧ (∀ s, s < 10 → σ' (283 + 4 * s) 2 = Tv V c s ∧ TakS V c σ' s) ∧ (∀ k j, (283 ≤ k ∧ k < 323 ∧ (k - 283) % 4 = 0 ∧ (j = 2 ∨ j = 4 ∨ j = 5)) ∨ σ' k j = σ k j)) := by
      intro h
      have hT : Tv V c i = c i := by unfold Tv; rw [if_pos (by omega), hok.2 i hi h]
      have htk := tk_none (c := c) h
      refine hrec a s2 ⟨g0, ?_, fun s hs => ?_, fun s h1 h2 => g3 s (by omega) h2, g4⟩
      · rw [g1]
        constructor
        · intro q s hs
          by_cases e : s = i
          · rw [e]; exact hT
          · exact q s (by omega)
        · intro q s hs; exact q s (by omega)
      · by_cases e : s = i
        · subst e; rw [htk.1, htk.2, hT]; exact hgi
        · exact g2 s (by omega)
    rw [fX2_chooseAll_L4]
    refine iLe (fun h => by omega) (fun _ => ?_)
    refine rS i rfl hi ?_
    refine wp_jn ?_
    refine iEq (fun h => hskip (by omega)) (fun h1 => ?_)
    refine iNe0 (fun h => hskip (by omega)) (fun h2 => ?_)
    refine wp_lt ?_
    unfold fX2_waitingWeight
    rw [bnd_eq, hC2.2.2.1, w32_sm (x := V 328 10) (by omega) (by omega)]
    refine wp_rfd ?_
    have hOi : OffS V s2 i (ofl V c i (nn V)) := ((hOf.1 i hi).1).mv (by have := g4 (283 + 4 * i) 3; omega) (fun k j h1 h2 => by have := g4 k j; omega)
    have hlen := ofl_len (V := V) (c := c) (s := i) (k := nn V)
    refine wp_bnd _ (c_choose ok hfu hi hOi (by omega) (fun x hx => ?_) hC2 hgi.2.1 hgi.2.2) ?_
    · have hx := ofl_mem hx
      have := bdv_le ok hx.1 (M := 20000000) (by omega) (fun s => (hbk s).2) i
      exact ⟨hx.1, hx.2.2, by omega⟩
    · intro r s3 ⟨q1, q2, q3, q4⟩
      have hT : Tv V c i = r := by rw [Tv_grv hi (by omega) (by omega), q1]; rfl
      have hTb := Tv_ge (c := c) ok i
      have hTb2 := Tv_le (c := c) ok (M := 20000000) (by omega) (fun s => (hbk s).2) i
      refine wp_stf ?_
      refine wp_ji (fun x s' => (x = 0 ∨ x = 1) ∧ (x = 0 ↔ a = 0 ∧ r = c i) ∧ mset s3 (283 + 4 * i) 2 r = s') ?_ ?_
      · rintro x s' ⟨x0, x1, rfl⟩
        refine hrec x _ ⟨x0, ?_, fun s hs => ?_, fun s h1 h2 => ?_, fun k j => ?_⟩
        · rw [x1, g1]
          constructor
          · intro q s hs
            by_cases e : s = i
            · rw [e, hT]; exact q.2
            · exact q.1 s (by omega)
          · intro q
            exact ⟨fun s hs => q s (by omega), by rw [← hT]; exact q i (by omega)⟩
        · by_cases e : s = i
          · subst e
            rw [ms_eq, ms_j (by omega), ms_j (by omega)]
            exact ⟨hT.symm, q2, q3⟩
          · rw [ms_k (by omega), ms_k (by omega), ms_k (by omega)]
            have a1 := q4 (283 + 4 * s) 2
            have a2 := q4 (283 + 4 * s) 4
            have a3 := q4 (283 + 4 * s) 5
            rw [a1.resolve_left (by omega), a2.resolve_left (by omega), a3.resolve_left (by omega)]
            exact g2 s (by omega)
        · rw [ms_k (by omega), ms_k (by omega), ms_k (by omega)]
          have a1 := q4 (283 + 4 * s) 2
          have a2 := q4 (283 + 4 * s) 4
          have a3 := q4 (283 + 4 * s) 5
          rw [a1.resolve_left (by omega), a2.resolve_left (by omega), a3.resolve_left (by omega)]
          exact g3 s (by omega) h2
        · by_cases e : k = 283 + 4 * i ∧ j = 2
          · left; omega
          · rw [mset_eq, if_neg e]
            rcases q4 k j with d | d
            · left; omega
            · rw [d]; exact g4 k j
      · intro j hj
        refine wp_jn ?_
        refine wp_jn ?_
        refine iNe0 (fun h => ?_) (fun h => ?_)
        · exact hj _ _ ⟨Or.inr rfl, by omega, rfl⟩
        · rw [ms_eq]
          refine iEq (fun h5 => ?_) (fun h5 => ?_)
          · exact hj _ _ ⟨Or.inl rfl, by omega, rfl⟩
          · exact hj _ _ ⟨Or.inr rfl, by omega, rfl⟩
  · intro n a s2 ⟨g0, g1, g2, g3, g4⟩
    rw [fX2_chooseAll_L4]
    refine iLe (fun _ => ?_) (fun h => by omega)
    refine wp_rtz g0 ⟨g0, g1, fun s hs => ⟨(g2 s hs).1, (g2 s hs).2.1, (g2 s hs).2.2, fun i hi => ?_⟩, g4⟩
    have hO := (hOf.1 s hs).1.2
    have := (tk_take (V := V) (c := c) (s := s)).2
    have hOi := hO i (by omega)
    rw [tk_at hi]
    have a1 := g4 (283 + 4 * s + 1) i
    have a2 := g4 (283 + 4 * s + 2) i
    rw [a1.resolve_left (by omega), a2.resolve_left (by omega)]
    exact ⟨hOi.1, hOi.2.1⟩
  · refine ⟨Or.inl rfl, ⟨fun _ s hs => by omega, fun _ => rfl⟩, fun s hs => by omega, fun s _ hs => ?_, fun k j => Or.inr rfl⟩
    exact ⟨(hOf.1 s hs).2.1, (hOf.1 s hs).2.2.1, (hOf.1 s hs).2.2.2⟩
end CCOSTS
