/-! ===== count ===== -/
theorem bits_dm (a x s : Int32) : (a &&& (x ^^^ Int32.ofInt (-1))) &&& (s ^^^ Int32.ofInt (-1)) = a &&& ((x ||| s) ^^^ Int32.ofInt (-1)) := by
  have hm : (Int32.ofInt (-1)).toBitVec = BitVec.allOnes 32 := by decide +kernel
  apply Int32.toBitVec_inj.mp
  show ((a.toBitVec &&& (x.toBitVec ^^^ (Int32.ofInt (-1)).toBitVec)) &&& (s.toBitVec ^^^ (Int32.ofInt (-1)).toBitVec)) = a.toBitVec &&& ((x.toBitVec ||| s.toBitVec) ^^^ (Int32.ofInt (-1)).toBitVec)
  rw [hm]
  ext i hi
  simp only [BitVec.getElem_and, BitVec.getElem_xor, BitVec.getElem_or, BitVec.getElem_allOnes]
  cases a.toBitVec[i] <;> cases x.toBitVec[i] <;> cases s.toBitVec[i] <;> rfl
theorem bits_n1 (a : Int32) : a &&& ((0 : Int32) ^^^ Int32.ofInt (-1)) = a := by
  have hm : (Int32.ofInt (-1)).toBitVec = BitVec.allOnes 32 := by decide +kernel
  apply Int32.toBitVec_inj.mp
  show (a.toBitVec &&& (0#32 ^^^ (Int32.ofInt (-1)).toBitVec)) = a.toBitVec
  rw [hm]
  ext i hi
  simp only [BitVec.getElem_and, BitVec.getElem_xor, BitVec.getElem_allOnes, BitVec.getElem_zero]
  cases a.toBitVec[i] <;> rfl
theorem and32_R (x y : Int) : R32 (and32 x y) := by
  unfold and32 R32
  have h1 := Int32.le_toInt (Int32.ofInt x &&& Int32.ofInt y)
  have h2 := Int32.toInt_lt (Int32.ofInt x &&& Int32.ofInt y)
  omega
theorem or_assoc32 (a b c : Int32) : (a ||| b) ||| c = a ||| (b ||| c) := by
  apply Int32.toBitVec_inj.mp
  show ((a.toBitVec ||| b.toBitVec) ||| c.toBitVec) = a.toBitVec ||| (b.toBitVec ||| c.toBitVec)
  ext i hi
  simp only [BitVec.getElem_or]
  cases a.toBitVec[i] <;> cases b.toBitVec[i] <;> cases c.toBitVec[i] <;> rfl
section COUNT
variable {V V' σ σ' : Mem} {c : Nat → Int} {t k j l p s fu : Nat} {a b v r : Int}
noncomputable def lns (V : Mem) : Nat → Int
  | 0 => 0
  | s + 1 => or32 (lns V s) (tlm (tk V (cv V) s) (tk V (cv V) s).length)
noncomputable def unv (V : Mem) : Int := and32 (shl32 1 (V 328 9) - 1) (xor32 (lns V 10) (-1))
theorem of_or (a b : Int) : Int32.ofInt (or32 a b) = Int32.ofInt a ||| Int32.ofInt b := by unfold or32; rw [Int32.ofInt_toInt]
theorem c_noSet (ok : OkN V) (hfu : 1000 < fu) (hC : Cls V σ) (hD : CostC V σ) : wp (fX2_linesInNoSet fu σ) (fun r σ' => r = unv V ∧ σ = σ') := by
  unfold fX2_linesInNoSet
  refine for2 (f := fX2_linesInNoSet_L4 fu _) 10 (fun i x s => x = lns V i ∧ σ = s) ?_ ?_ (i := 0) ⟨rfl, rfl⟩
  · rintro n i x s hi ⟨rfl, rfl⟩ hrec
    rw [fX2_linesInNoSet_L4]
    refine iLe (fun h => by omega) (fun _ => ?_)
    refine rS i rfl hi ?_
    refine wp_bnd _ (c_takenLines ok hfu (hD.1 i hi).2) ?_
    rintro x s' ⟨rfl, rfl⟩
    exact wp_lt (hrec _ _ ⟨rfl, rfl⟩)
  · rintro n x s ⟨rfl, rfl⟩
    rw [fX2_linesInNoSet_L4]
    refine iLe (fun _ => ?_) (fun h => by omega)
    rw [hC.2.1]
    exact wp_some ⟨rfl, rfl⟩
theorem r_unused (h : OkA t V) (hfu : 1000 < fu) (hR : RefA V σ) : wp (fX7_unusedBits fu σ) (fun r σ' => r = unv V ∧ RP σ σ') := by
  have hn := h.1.n
  unfold fX7_unusedBits
  refine wp_bnd _ (r_lays h hfu hR) ?_
  intro _ s2 ⟨d1, d2, d3, d4⟩
  rw [d2.1.j (by omega)]
  refine wp_lt ?_
  have hA0 : R32 (shl32 1 (V 328 9) - 1) := by
    rw [← hn.1]
    have : ∀ n : Nat, n ≤ 12 → 0 ≤ shl32 1 (n : Int) ∧ shl32 1 (n : Int) ≤ 4096 := by decide +kernel
    have := this (nn V) hn.2
    omega
  have hor0 : ∀ x : Int32, x ||| Int32.ofInt 0 = x := fun x => by
    have : Int32.ofInt 0 = 0 := by decide +kernel
    rw [this, Int32.or_zero]
  have hn0 : Int32.ofInt (shl32 1 (V 328 9) - 1) &&& (Int32.ofInt (lns V 0) ^^^ Int32.ofInt (-1)) = Int32.ofInt (shl32 1 (V 328 9) - 1) := bits_n1 _
  have hun : unv V = (Int32.ofInt (shl32 1 (V 328 9) - 1) &&& (Int32.ofInt (lns V 10) ^^^ Int32.ofInt (-1))).toInt := by
    unfold unv and32 xor32
    rw [Int32.ofInt_toInt]
  rw [hun]
  generalize shl32 1 (V 328 9) - 1 = A0 at *
  refine for2 (f := fX7_unusedBits_L15 fu _) 10 (fun i x s => R32 x ∧ Int32.ofInt x = Int32.ofInt A0 &&& (Int32.ofInt (lns V i) ^^^ Int32.ofInt (-1)) ∧ s2 = s) ?_ ?_ (i := 0) ⟨hA0, hn0.symm, rfl⟩
  · rintro n i x s hi ⟨g0, g1, rfl⟩ hrec
    have hS := (d1.1 i hi).2
    have hlen := tk_len (c := cv V) (s := i) h.1
    rw [fX7_unusedBits_L15]
    refine iLe (fun h => by omega) (fun _ => ?_)
    refine for2 (f := fX7_unusedBits_L23 fu (i : Int) _) (tk V (cv V) i).length (fun q y s => R32 y ∧ Int32.ofInt y = Int32.ofInt A0 &&& ((Int32.ofInt (lns V i) ||| Int32.ofInt (tlm (tk V (cv V) i) q)) ^^^ Int32.ofInt (-1)) ∧ s2 = s) ?_ ?_ (i := 0) ⟨g0, by rw [g1]; simp only [tlm]; rw [hor0], rfl⟩
    · rintro n q y s hq ⟨w0, w1, rfl⟩ hrec2
      rw [fX7_unusedBits_L23]
      refine rI i rfl hi ?_
      rw [hS.1]
      refine iLe (fun h => by omega) (fun _ => ?_)
      refine rI (12 * i + q) (by omega) (by omega) ?_
      rw [hS.2.2 q hq]
      refine wp_lt (hrec2 _ _ ⟨?_, ?_, rfl⟩)
      · exact and32_R _ _
      · unfold and32 xor32
        rw [Int32.ofInt_toInt, Int32.ofInt_toInt, w1, bits_dm, or_assoc32]
        simp only [tlm]
        rw [of_or]
    · rintro n y s ⟨w0, w1, rfl⟩
      rw [fX7_unusedBits_L23]
      refine rI i rfl hi ?_
      rw [hS.1]
      refine iLe (fun _ => ?_) (fun h => by omega)
      refine hrec _ _ ⟨w0, ?_, rfl⟩
      rw [w1]
      simp only [lns]
      rw [of_or]
  · rintro n x s ⟨g0, g1, rfl⟩
    rw [fX7_unusedBits_L15]
    refine iLe (fun _ => wp_some ⟨?_, d4⟩) (fun h => by omega)
    rw [← g1]
    exact (w32_id g0).symm
theorem r_costedBits (h : OkA t V) (hfu : 1000 < fu) (hR : RefA V σ) : wp (fX7_costedBits fu σ) (fun r σ' => r = bts (stw V 2147483647) 10 ∧ RP σ σ') := by
  unfold fX7_costedBits
  refine wp_bnd _ (r_lays h hfu hR) ?_
  intro _ s2 ⟨d1, d2, d3, d4⟩
  refine for2 (f := fX7_costedBits_L8 fu _) 10 (fun i x s => x = bts (stw V 2147483647) i ∧ s2 = s) ?_ ?_ (i := 0) ⟨rfl, rfl⟩
  · rintro n i x s hi ⟨rfl, rfl⟩ hrec
    have hv := cv_b h.1 i
    have hz := shl0 (n := i) (by omega)
    rw [fX7_costedBits_L8]
    refine iLe (fun h => by omega) (fun _ => ?_)
    refine rI i rfl hi ?_
    rw [(d1.1 i hi).1]
    refine wp_jn (jLt (fun h => wp_lt (hrec _ _ ⟨?_, rfl⟩)) (fun h => wp_lt (hrec _ _ ⟨?_, rfl⟩)))
    · simp only [bts]; unfold stw; rw [if_neg (by omega : ¬ (0 ≤ cv V i ∧ cv V i ≤ 2147483647)), hz]
    · simp only [bts]; unfold stw; rw [if_pos (by omega : (0 ≤ cv V i ∧ cv V i ≤ 2147483647))]
  · rintro n x s ⟨rfl, rfl⟩
    rw [fX7_costedBits_L8]
    exact iLe (fun _ => wp_some ⟨rfl, d4⟩) (fun h => by omega)
theorem c_allRiders (ok : OkN V) (hfu : 1000 < fu) (hC : Cls V σ) : wp (fX2_allRiders fu σ) (fun r σ' => r = smf (V 338) 10 ∧ σ = σ') := by
  unfold fX2_allRiders
  refine for2 (f := fX2_allRiders_L4 fu _) 10 (fun i x s => x = smf (V 338) i ∧ σ = s) ?_ ?_ (i := 0) ⟨rfl, rfl⟩
  · rintro n i x s hi ⟨rfl, rfl⟩ hrec
    rw [fX2_allRiders_L4]
    refine iLe (fun h => by omega) (fun _ => ?_)
    refine rS i rfl hi (wp_lt ?_)
    rw [(hC.2.2.2.2.2.2.1 i hi).1]
    exact hrec _ _ ⟨rfl, rfl⟩
  · rintro n x s ⟨rfl, rfl⟩
    rw [fX2_allRiders_L4]
    exact iLe (fun _ => wp_some ⟨rfl, rfl⟩) (fun h => by omega)
theorem r_ridersMany (hfu : 1000 < fu) (hR : RefA V σ) : wp (fX7_ridersMany fu σ) (fun r σ' => r = smf (V 338) 10 ∧ σ = σ') := by
  unfold fX7_ridersMany
  refine for2 (f := fX7_ridersMany_L4 fu _) 10 (fun i x s => x = smf (V 338) i ∧ σ = s) ?_ ?_ (i := 0) ⟨rfl, rfl⟩
  · rintro n i x s hi ⟨rfl, rfl⟩ hrec
    rw [fX7_ridersMany_L4]
    refine iLe (fun h => by omega) (fun _ => ?_)
    refine rI i rfl hi (wp_lt ?_)
    rw [hR.2.1 i hi]
    exact hrec _ _ ⟨rfl, rfl⟩
  · rintro n x s ⟨rfl, rfl⟩
    rw [fX7_ridersMany_L4]
    exact iLe (fun _ => wp_some ⟨rfl, rfl⟩) (fun h => by omega)
theorem c_allSteps (ok : OkN V) (hfu : 1000 < fu) (hC : Cls V σ) : wp (fX2_allSteps fu σ) (fun r σ' => r = smf (fun l => V 330 l - 1) (nn V) ∧ σ = σ') := by
  have hn := ok.n
  unfold fX2_allSteps
  refine for2 (f := fX2_allSteps_L4 fu _) (nn V) (fun i x s => x = smf (fun l => V 330 l - 1) i ∧ σ = s) ?_ ?_ (i := 0) ⟨rfl, rfl⟩
  · rintro n i x s hi ⟨rfl, rfl⟩ hrec
    rw [fX2_allSteps_L4, hC.2.1]
    refine iLe (fun h => by omega) (fun _ => ?_)
    refine wp_rfd (rR i rfl (by omega) (wp_lt ?_))
    rw [show pl (σ (pl (σ 136 0)) i) = PL σ i from rfl, (hC.ln hi).2.1]
    exact hrec _ _ ⟨rfl, rfl⟩
  · rintro n x s ⟨rfl, rfl⟩
    rw [fX2_allSteps_L4, hC.2.1]
    exact iLe (fun _ => wp_some ⟨rfl, rfl⟩) (fun h => by omega)
theorem r_stepMany (ok : OkN V) (hfu : 1000 < fu) (hR : Ref V σ) : wp (fX7_stepMany fu σ) (fun r σ' => r = smf (fun l => V 330 l - 1) (nn V) ∧ σ = σ') := by
  have hn := ok.n
  unfold fX7_stepMany
  refine for2 (f := fX7_stepMany_L4 fu _) (nn V) (fun i x s => x = smf (fun l => V 330 l - 1) i ∧ σ = s) ?_ ?_ (i := 0) ⟨rfl, rfl⟩
  · rintro n i x s hi ⟨rfl, rfl⟩ hrec
    rw [fX7_stepMany_L4, hR.j (by omega)]
    refine iLe (fun h => by omega) (fun _ => ?_)
    refine rI i rfl (by omega) (wp_lt ?_)
    rw [hR.2 330 _ (by omega) (by omega)]
    exact hrec _ _ ⟨rfl, rfl⟩
  · rintro n x s ⟨rfl, rfl⟩
    rw [fX7_stepMany_L4, hR.j (by omega)]
    exact iLe (fun _ => wp_some ⟨rfl, rfl⟩) (fun h => by omega)
theorem wp_ret {q : PR} (h : wp q (fun r σ' => r = v ∧ σ = σ')) {Q : Int → Mem → Prop} (g : Q v σ) : wp (bnd q (fun x s => some (x, s))) Q := by
  refine wp_bnd _ h ?_
  rintro x s' ⟨rfl, rfl⟩
  exact wp_some g
noncomputable def cnv (V : Mem) (a : Int) : Int := if a = 0 then V 328 9 else if a = 1 then V 328 10 else if a = 2 then V 328 11 else if a = 3 then smf (V 338) 10 else if a = 4 then V 328 12 else if a = 5 then V 328 13 else if a = 6 then smf (fun l => V 330 l - 1) (nn V) else if a = 7 then bts (V 339) 10 else if a = 8 then bts (V 337) (nn V) else if a = 9 then V 328 19 else if a = 10 then V 328 17 else if a = 11 then unv V else if a = 12 then bts (stw V 2147483647) 10 else -1
theorem op_count (h : OkA t V) (hfu : 1000 < fu) (ha : R32 a) : Op t V (fX6_count fu a) (fX7_count fu a) := by
  refine op_same h (cnv V a) (fun σ hC => ?_) (fun σ hR => ?_)
  · unfold fX6_count cnv
    rw [w32_id ha]
    refine wp_ite (fun g => wp_some ⟨?_, CP.refl σ⟩) (fun g => ?_)
    · rw [if_neg (by omega), if_neg (by omega), if_neg (by omega), if_neg (by omega), if_neg (by omega), if_neg (by omega), if_neg (by omega), if_neg (by omega), if_neg (by omega), if_neg (by omega), if_neg (by omega), if_neg (by omega), if_neg (by omega)]
    refine wp_ite (fun e => wp_some ⟨by rw [if_pos e]; exact hC.1.2.1, CP.refl σ⟩) (fun e => ?_)
    rw [if_neg e]
    refine wp_ite (fun e => wp_some ⟨by rw [if_pos e]; exact hC.1.2.2.1, CP.refl σ⟩) (fun e => ?_)
    rw [if_neg e]
    refine wp_ite (fun e => wp_some ⟨by rw [if_pos e]; exact hC.1.2.2.2.1, CP.refl σ⟩) (fun e => ?_)
    rw [if_neg e]
    refine wp_ite (fun e => wp_ret (c_allRiders h.1 hfu hC.1) ⟨by rw [if_pos e], CP.refl σ⟩) (fun e => ?_)
    rw [if_neg e]
    refine wp_ite (fun e => wp_some ⟨by rw [if_pos e]; exact hC.1.2.2.2.2.1, CP.refl σ⟩) (fun e => ?_)
    rw [if_neg e]
    refine wp_ite (fun e => wp_some ⟨by rw [if_pos e]; exact hC.1.2.2.2.2.2.1, CP.refl σ⟩) (fun e => ?_)
    rw [if_neg e]
    refine wp_ite (fun e => wp_ret (c_allSteps h.1 hfu hC.1) ⟨by rw [if_pos e], CP.refl σ⟩) (fun e => ?_)
    rw [if_neg e]
    refine wp_ite (fun e => wp_ret (c_closedStops h.1 hfu hC.1) ⟨by rw [if_pos e], CP.refl σ⟩) (fun e => ?_)
    rw [if_neg e]
    refine wp_ite (fun e => wp_ret (c_outLines h.1 hfu hC.1) ⟨by rw [if_pos e], CP.refl σ⟩) (fun e => ?_)
    rw [if_neg e]
    refine wp_ite (fun e => wp_some ⟨by rw [if_pos e]; exact hC.2.2.1, CP.refl σ⟩) (fun e => ?_)
    rw [if_neg e]
    refine wp_ite (fun e => wp_some ⟨by rw [if_pos e]; exact hC.2.1.1, CP.refl σ⟩) (fun e => ?_)
    rw [if_neg e]
    refine wp_ite (fun e => ?_) (fun e => ?_)
    · rw [if_pos e]
      refine wp_bnd _ (c_find h hfu hC) ?_
      intro _ s2 ⟨d1, d2, d3, d4⟩
      exact wp_ret (c_noSet h.1 hfu d2.1 d1) ⟨rfl, d4⟩
    · rw [if_neg e]
      refine wp_ite (fun e => ?_) (fun e => by omega)
      rw [if_pos e]
      refine wp_bnd _ (c_find h hfu hC) ?_
      intro _ s2 ⟨d1, d2, d3, d4⟩
      exact wp_ret (c_within h.1 hfu d1 (by omega)) ⟨rfl, d4⟩
  · have hR' := hR.s20 (v := 0)
    unfold fX7_count cnv
    refine wp_stf ?_
    rw [w32_id ha]
    refine wp_ite (fun g => wp_some ⟨?_, rp20 σ 0⟩) (fun g => ?_)
    · rw [if_neg (by omega), if_neg (by omega), if_neg (by omega), if_neg (by omega), if_neg (by omega), if_neg (by omega), if_neg (by omega), if_neg (by omega), if_neg (by omega), if_neg (by omega), if_neg (by omega), if_neg (by omega), if_neg (by omega)]
    refine wp_ite (fun e => wp_some ⟨by rw [if_pos e]; exact hR'.1.j (by omega), rp20 σ 0⟩) (fun e => ?_)
    rw [if_neg e]
    refine wp_ite (fun e => wp_some ⟨by rw [if_pos e]; exact hR'.1.j (by omega), rp20 σ 0⟩) (fun e => ?_)
    rw [if_neg e]
    refine wp_ite (fun e => wp_some ⟨by rw [if_pos e]; exact hR'.1.j (by omega), rp20 σ 0⟩) (fun e => ?_)
    rw [if_neg e]
    refine wp_ite (fun e => wp_ret (r_ridersMany hfu hR') ⟨by rw [if_pos e], rp20 σ 0⟩) (fun e => ?_)
    rw [if_neg e]
    refine wp_ite (fun e => wp_some ⟨by rw [if_pos e]; exact hR'.1.j (by omega), rp20 σ 0⟩) (fun e => ?_)
    rw [if_neg e]
    refine wp_ite (fun e => wp_some ⟨by rw [if_pos e]; exact hR'.1.j (by omega), rp20 σ 0⟩) (fun e => ?_)
    rw [if_neg e]
    refine wp_ite (fun e => wp_ret (r_stepMany h.1 hfu hR'.1) ⟨by rw [if_pos e], rp20 σ 0⟩) (fun e => ?_)
    rw [if_neg e]
    refine wp_ite (fun e => wp_ret (r_closedBits h.1 hfu hR'.1) ⟨by rw [if_pos e], rp20 σ 0⟩) (fun e => ?_)
    rw [if_neg e]
    refine wp_ite (fun e => wp_ret (r_outBits h.1 hfu hR'.1) ⟨by rw [if_pos e], rp20 σ 0⟩) (fun e => ?_)
    rw [if_neg e]
    refine wp_ite (fun e => wp_some ⟨by rw [if_pos e]; exact hR'.2.2.2.2.1, rp20 σ 0⟩) (fun e => ?_)
    rw [if_neg e]
    refine wp_ite (fun e => wp_some ⟨by rw [if_pos e]; exact hR'.2.2.1, rp20 σ 0⟩) (fun e => ?_)
    rw [if_neg e]
    refine wp_ite (fun e => ?_) (fun e => ?_)
    · rw [if_pos e]
      refine wp_bnd _ (r_unused h hfu hR') ?_
      rintro x s2 ⟨rfl, g⟩
      exact wp_some ⟨rfl, (rp20 σ 0).trans g⟩
    · rw [if_neg e]
      refine wp_ite (fun e => ?_) (fun e => by omega)
      rw [if_pos e]
      refine wp_bnd _ (r_costedBits h hfu hR') ?_
      rintro x s2 ⟨rfl, g⟩
      exact wp_some ⟨rfl, (rp20 σ 0).trans g⟩
end COUNT
