/-! ===== how often one boards ===== -/
abbrev ali (V : Mem) (c : Nat → Int) (s i : Nat) : Nat := sp V (gtL (tk V c s) i).2 (lvq V c (gtL (tk V c s) i).2 (plc V (gtL (tk V c s) i).2 s))
def bsm (V : Mem) (c : Nat → Int) (s : Nat) (B : Nat → Int) : Nat → Int
  | 0 => 0
  | k + 1 => bsm V c s B k + frv V (gtL (tk V c s) k).2 * (1000 + B (ali V c s k))
def brF (V : Mem) (c : Nat → Int) : Nat → Nat → Int
  | 0 => fun _ => 0
  | d + 1 => fun q => if q = (gtL (od V c) ((od V c).length - (d + 1))).2 then bsm V c (gtL (od V c) ((od V c).length - (d + 1))).2 (brF V c d) (tk V c (gtL (od V c) ((od V c).length - (d + 1))).2).length / fs V c (gtL (od V c) ((od V c).length - (d + 1))).2 else brF V c d q
def FrD (σ σ' : Mem) : Prop := ∀ k j, (283 ≤ k ∧ k < 323 ∧ (k - 283) % 4 = 0 ∧ (j < 2 ∨ 6 ≤ j)) ∨ (4 ≤ k ∧ k < 136 ∧ 8 ≤ (k - 4) % 11) ∨ (138 ≤ k ∧ k < 270 ∧ 8 ≤ (k - 138) % 11) ∨ k = 271 ∨ (k = 136 ∧ 7 ≤ j) ∨ 323 ≤ k ∨ σ' k j = σ k j
section BOARDS
variable {V V' σ σ' : Mem} {c B : Nat → Int} {t k j l p s fu : Nat} {a b v r : Int}
theorem FrD.at {k j : Nat} (h : FrD σ σ') (g : ¬ ((283 ≤ k ∧ k < 323 ∧ (k - 283) % 4 = 0 ∧ (j < 2 ∨ 6 ≤ j)) ∨ (4 ≤ k ∧ k < 136 ∧ 8 ≤ (k - 4) % 11) ∨ (138 ≤ k ∧ k < 270 ∧ 8 ≤ (k - 138) % 11) ∨ k = 271 ∨ (k = 136 ∧ 7 ≤ j) ∨ 323 ≤ k)) : σ' k j = σ k j := by
  rcases h k j with e | e | e | e | e | e | e
  · exact absurd (Or.inl e) g
  · exact absurd (Or.inr (Or.inl e)) g
  · exact absurd (Or.inr (Or.inr (Or.inl e))) g
  · exact absurd (Or.inr (Or.inr (Or.inr (Or.inl e)))) g
  · exact absurd (Or.inr (Or.inr (Or.inr (Or.inr (Or.inl e))))) g
  · exact absurd (Or.inr (Or.inr (Or.inr (Or.inr (Or.inr e))))) g
  · exact e
theorem DatC.mvD (h : DatC V c σ) (ok : OkN V) (hT : Tab σ) (g : FrD σ σ') : DatC V c σ' := by
  have ht := tab_mv hT (σ' := σ') (g.at (by omega)) (g.at (by omega)) (fun j => g.at (by omega)) (fun j => g.at (by omega))
  refine ⟨fun s hs => ⟨by rw [g.at (by omega)]; exact (h.1 s hs).1, (h.1 s hs).2.mv (g.at (by omega)) (g.at (by omega)) (fun k j a b => g.at (by omega))⟩, fun l hl => ?_⟩
  rw [ht.2.1]
  have hP := hT.2.1 l (by have := ok.n; omega)
  exact (h.2 l hl).mv (fun k j a b => g.at (by omega))
theorem bsm_b (ok : OkN V) {M : Int} (hB : ∀ q, 0 ≤ B q ∧ B q ≤ M) : ∀ k, 0 ≤ bsm V c s B k ∧ bsm V c s B k ≤ frk V c s k * (1000 + M) := by
  intro k
  induction k with
  | zero => simp [bsm, frk]
  | succ k ih =>
    have h1 := hB (ali V c s k)
    have h2 := ok.fr (gtL (tk V c s) k).2
    have h3 : 0 ≤ frv V (gtL (tk V c s) k).2 * (1000 + B (ali V c s k)) := Int.mul_nonneg (by omega) (by omega)
    have h4 : frv V (gtL (tk V c s) k).2 * (1000 + B (ali V c s k)) ≤ frv V (gtL (tk V c s) k).2 * (1000 + M) := Int.mul_le_mul_of_nonneg_left (by omega) (by omega)
    simp only [bsm, frk]
    rw [Int.add_mul]
    omega
theorem bsm_d (ok : OkN V) (hf : 1 ≤ fs V c s) {M : Int} (hM : 0 ≤ M) (hB : ∀ q, 0 ≤ B q ∧ B q ≤ M) : 0 ≤ bsm V c s B (tk V c s).length / fs V c s ∧ bsm V c s B (tk V c s).length / fs V c s ≤ 1000 + M := by
  have h := bsm_b (c := c) (s := s) ok hB (tk V c s).length
  rw [frk_fs] at h
  refine ⟨Int.ediv_nonneg h.1 (by omega), ?_⟩
  have := Int.ediv_le_ediv (c := fs V c s) (by omega) h.2
  rw [Int.mul_ediv_cancel_left _ (by omega)] at this
  exact this
theorem brF_b (ok : OkN V) (hb : CstOk V c) (hfix : ∀ s, s < 10 → Tv V c s = c s) : ∀ d : Nat, d ≤ (od V c).length → ∀ q, 0 ≤ brF V c d q ∧ brF V c d q ≤ 1000 * (d : Int) := by
  intro d
  induction d with
  | zero => intro _ q; simp [brF]
  | succ d ih =>
    intro hd q
    have ih := ih (by omega)
    have hm := od_mem hb (show (od V c).length - (d + 1) < (od V c).length by omega)
    have hf := fs_pos ok hb hm.1 hm.2.1 hm.2.2 (hfix _ hm.1)
    simp only [brF]
    split
    · have := bsm_d (B := brF V c d) ok hf.1 (M := 1000 * (d : Int)) (by omega) ih
      omega
    · have := ih q; omega
def Kn (V : Mem) (c : Nat → Int) (d q : Nat) : Prop := q = gl V ∨ ∃ j, (od V c).length - d ≤ j ∧ j < (od V c).length ∧ (gtL (od V c) j).2 = q
/-- where one alights is known before -/
theorem Kn_ali (ok : OkN V) (hb : CstOk V c) (h37 : V 328 37 = -1) (hfix : ∀ s, s < 10 → Tv V c s = c s) {d : Nat} (hd : d < (od V c).length) {i : Nat} (hi : i < (tk V c (gtL (od V c) ((od V c).length - (d + 1))).2).length) : Kn V c d (ali V c (gtL (od V c) ((od V c).length - (d + 1))).2 i) ∧ ali V c (gtL (od V c) ((od V c).length - (d + 1))).2 i < 10 := by
  have hlt : (od V c).length - (d + 1) < (od V c).length := by omega
  have hk : (gtL (od V c) ((od V c).length - (d + 1))).2 < 10 ∧ (gtL (od V c) ((od V c).length - (d + 1))).1 = 30000000 - c (gtL (od V c) ((od V c).length - (d + 1))).2 ∧ (gtL (od V c) ((od V c).length - (d + 1))).2 ≠ gl V ∧ 0 ≤ c (gtL (od V c) ((od V c).length - (d + 1))).2 := odk_mem hb.1 (gtL_mem hlt)
  have hm := od_mem hb hlt
  have hl : ali V c (gtL (od V c) ((od V c).length - (d + 1))).2 i < 10 ∧ 0 ≤ c (ali V c (gtL (od V c) ((od V c).length - (d + 1))).2 i) ∧ c (ali V c (gtL (od V c) ((od V c).length - (d + 1))).2 i) + 100 ≤ c (gtL (od V c) ((od V c).length - (d + 1))).2 := lv_less ok hb h37 hm.1 hm.2.1 hm.2.2 (hfix _ hm.1) hi
  generalize hs : (gtL (od V c) ((od V c).length - (d + 1))).2 = s at *
  refine ⟨?_, hl.1⟩
  by_cases hg : ali V c s i = gl V
  · exact Or.inl hg
  · right
    have hmem : (oky V c (ali V c s i), ali V c s i) ∈ od V c := bset_mem.mpr ⟨hl.1, rfl, by
      show 0 ≤ oky V c (ali V c s i)
      have := hb.1 (ali V c s i)
      unfold oky; rw [if_neg (by omega)]; omega⟩
    obtain ⟨j, hj, e⟩ := mem_gtL hmem
    have e2 : (gtL (od V c) j).2 = ali V c s i := by rw [e]
    have hkj : (gtL (od V c) j).2 < 10 ∧ (gtL (od V c) j).1 = 30000000 - c (gtL (od V c) j).2 ∧ (gtL (od V c) j).2 ≠ gl V ∧ 0 ≤ c (gtL (od V c) j).2 := odk_mem hb.1 (gtL_mem hj)
    rw [e2] at hkj
    refine ⟨j, ?_, hj, e2⟩
    rcases Nat.lt_or_ge j ((od V c).length - d) with a | a
    · exfalso
      have := srt_le (bset_srt (oky V c) 10) (show j ≤ (od V c).length - (d + 1) by omega) hlt
      have e3 : (gtL (bset (oky V c) 10) j).1 = 30000000 - c (ali V c s i) := hkj.2.1
      have e4 : (gtL (bset (oky V c) 10) ((od V c).length - (d + 1))).1 = 30000000 - c s := hk.2.1
      omega
    · exact a
theorem c_bySet (ok : OkN V) (hfu : 1000 < fu) (hC : Cls V σ) (hD : DatC V c σ) (hb : ∀ s, -1 ≤ c s) (hs : s < 10) (hf : 1 ≤ fs V c s) (hB : ∀ q, 0 ≤ B q ∧ B q ≤ 10000) (hBs : ∀ i, i < (tk V c s).length → σ (283 + 4 * ali V c s i) 7 = B (ali V c s i)) :
    wp (fX2_boardsBySet fu (283 + 4 * s) σ) (fun r σ' => r = bsm V c s B (tk V c s).length / fs V c s ∧ σ = σ') := by
  have hlen := tk_len (c := c) (s := s) ok
  have hn := ok.n
  have hT := (hD.1 s hs).2
  have hfs := fs_b (c := c) (s := s) ok
  unfold fX2_boardsBySet
  refine for2 (f := fX2_boardsBySet_L5 fu (283 + 4 * s) _) (tk V c s).length (fun i x s' => x = bsm V c s B i ∧ σ = s') ?_ ?_ (i := 0) ⟨rfl, rfl⟩
  · rintro n i x s' hi ⟨rfl, rfl⟩ hrec
    have hl := tk_line ok hb hi
    have hlv := tk_lv ok hb hi
    have hst := ok.st hl.1 hlv.2.1
    have h8 := ok.len hl.1
    have hfr := ok.fr (gtL (tk V c s) i).2
    have hBi := hB (ali V c s i)
    rw [fX2_boardsBySet_L5, hT.1]
    refine iLe (fun h => by omega) (fun _ => ?_)
    refine wp_rfd (rI i rfl (by omega) ?_)
    rw [(hT.2.2 i hi).1]
    refine rR (gtL (tk V c s) i).2 rfl (by omega) ?_
    rw [show pl (σ (pl (σ 136 0)) (gtL (tk V c s) i).2) = PL σ (gtL (tk V c s) i).2 from rfl]
    refine rI i rfl (by omega) ?_
    rw [(hT.2.2 i hi).2]
    refine wp_bnd _ (c_leftFrom ok hfu hl.1 (hC.ln hl.1) (hD.2 _ hl.1) hlv.1 hlv.2.1 hlv.2.2.1 hlv.2.2.2.1) ?_
    rintro r s' ⟨rfl, rfl⟩
    refine wp_jn (iEq (fun h => by omega) (fun _ => ?_))
    refine rI (lvq V c (gtL (tk V c s) i).2 (plc V (gtL (tk V c s) i).2 s)) rfl (by omega) ?_
    rw [(hC.ln hl.1).2.2.2.2.2.1 _ hlv.2.1]
    refine rS (ali V c s i) hst.1.symm hst.2 (wp_lt ?_)
    rw [hBs i hi, w32_sm (x := 1000 + B (ali V c s i)) (by omega) (by omega)]
    have e0 : σ (PL σ (gtL (tk V c s) i).2) 0 = frv V (gtL (tk V c s) i).2 := by rw [(hC.ln hl.1).1]; unfold frv; rw [if_pos hl.1]
    rw [e0, w32_sm (x := frv V (gtL (tk V c s) i).2) (by omega) (by omega)]
    exact hrec _ _ ⟨rfl, rfl⟩
  · rintro n x s' ⟨rfl, rfl⟩
    rw [fX2_boardsBySet_L5, hT.1]
    refine iLe (fun _ => ?_) (fun h => by omega)
    have hbb := bsm_b (c := c) (s := s) ok hB (tk V c s).length
    rw [frk_fs] at hbb
    rw [hT.2.1, w32_sm (by omega) (by omega), parts_pos fu σ ⟨by omega, by omega⟩ hbb.1 ⟨by omega, by omega⟩ hf, bnd_eq]
    exact wp_some ⟨rfl, rfl⟩
theorem c_findBoards (h : OkA t V) (hfu : 1000 < fu) (hC : ClsA V σ) (hD : CostC V σ) (hs : s < 10) (hc0 : 0 ≤ cv V s) : wp (fX2_findBoards fu σ) (fun _ σ' => σ' (283 + 4 * s) 7 = brF V (cv V) (od V (cv V)).length s ∧ CP σ σ') := by
  have ok := h.1
  have hb := cv_ok ok
  have hfix : ∀ s, s < 10 → Tv V (cv V) s = cv V s := fun s hs => cv_fix ok hs
  have hgl := ok.go
  have hod : (od V (cv V)).length ≤ 10 := odk_len (V := V) (c := cv V) (k := 10)
  unfold fX2_findBoards
  refine wp_bnd _ (c_order ok hfu hC.1.2.2.2.1 hb.1 (fun s hs => (hD.1 s hs).1)) ?_
  intro _ s1 ⟨o1, o2⟩
  have e4 : s1 136 4 = V 328 11 := by rw [← hC.1.2.2.2.1]; have := o2 136 4; omega
  rw [e4]
  refine rS (gl V) hgl.1.symm hgl.2 ?_
  refine wp_stf (wp_lt ?_)
  rw [ms_k (by omega), o1.1]
  have hfr0 : ∀ k j, (283 ≤ k ∧ k < 323 ∧ (k - 283) % 4 = 0 ∧ j = 7) ∨ k = 271 ∨ (k = 136 ∧ j = 11) ∨ mset s1 (283 + 4 * gl V) 7 0 k j = σ k j := by
    intro k j
    by_cases e : k = 283 + 4 * gl V ∧ j = 7
    · left; omega
    · rw [mset_eq, if_neg e]
      have := o2 k j
      omega
  have hord : ∀ i, i < (od V (cv V)).length → mset s1 (283 + 4 * gl V) 7 0 271 i = ((gtL (od V (cv V)) i).2 : Int) := fun i hi => by rw [ms_k (by omega)]; exact o1.2 i hi
  have hg0 : mset s1 (283 + 4 * gl V) 7 0 (283 + 4 * gl V) 7 = 0 := ms_eq _ _ _ _
  generalize mset s1 (283 + 4 * gl V) 7 0 = s2 at *
  refine down1 (f := fX2_findBoards_L24 fu _) (od V (cv V)).length (fun i s3 => i ≤ (od V (cv V)).length ∧ (∀ q, q < 10 → Kn V (cv V) ((od V (cv V)).length - i) q → s3 (283 + 4 * q) 7 = brF V (cv V) ((od V (cv V)).length - i) q) ∧ ∀ k j, (283 ≤ k ∧ k < 323 ∧ (k - 283) % 4 = 0 ∧ j = 7) ∨ s3 k j = s2 k j) ?_ ?_ (i := (od V (cv V)).length) ⟨Nat.le_refl _, fun q hq hk => ?_, fun k j => Or.inr rfl⟩ rfl
  · intro n i s3 hi ⟨_, j1, j2⟩ hrec
    have hfr3 : ∀ k j, (283 ≤ k ∧ k < 323 ∧ (k - 283) % 4 = 0 ∧ j = 7) ∨ k = 271 ∨ (k = 136 ∧ j = 11) ∨ s3 k j = σ k j := by
      intro k j
      have a := j2 k j
      have b := hfr0 k j
      omega
    have hCP : CP σ s3 := fun k j => by
      have := hfr3 k j
      omega
    have hFD : FrD σ s3 := fun k j => by
      have := hfr3 k j
      omega
    have hC3 := hC.mv ok hCP
    have hD3 : DatC V (cv V) s3 := DatC.mvD (σ := σ) ⟨hD.1, hD.2.1⟩ ok hC.1.1 hFD
    have e271 : s3 271 i = ((gtL (od V (cv V)) i).2 : Int) := by rw [← hord i hi]; have := j2 271 i; omega
    have hm := od_mem hb hi
    have hf := fs_pos ok hb hm.1 hm.2.1 hm.2.2 (hfix _ hm.1)
    have hd1 : (od V (cv V)).length - i = ((od V (cv V)).length - (i + 1)) + 1 := by omega
    have hd2 : (od V (cv V)).length - ((od V (cv V)).length - (i + 1) + 1) = i := by omega
    have hbr := brF_b ok hb hfix ((od V (cv V)).length - (i + 1)) (by omega)
    rw [fX2_findBoards_L24]
    refine iLt0 (fun h => by omega) (fun _ => ?_)
    refine rI i rfl (by omega) ?_
    rw [e271]
    refine rS (gtL (od V (cv V)) i).2 rfl hm.1 ?_
    refine rI i rfl (by omega) ?_
    rw [e271]
    refine rS (gtL (od V (cv V)) i).2 rfl hm.1 ?_
    refine wp_bnd _ (c_bySet (B := brF V (cv V) ((od V (cv V)).length - (i + 1))) ok hfu hC3.1 hD3 (fun s => (hb.1 s).1) hm.1 hf.1 (fun q => by have := hbr q; omega) (fun x hx => ?_)) ?_
    · have hka := Kn_ali ok hb h.2.1 hfix (d := (od V (cv V)).length - (i + 1)) (by omega) (i := x) (by rw [hd2]; exact hx)
      rw [hd2] at hka
      exact j1 _ hka.2 hka.1
    · rintro x s' ⟨rfl, rfl⟩
      refine wp_stf ?_
      refine hrec _ ⟨by omega, fun q hq hk => ?_, fun k j => ?_⟩
      · rw [hd1]
        simp only [brF]
        rw [hd2]
        by_cases e : q = (gtL (od V (cv V)) i).2
        · rw [if_pos e, e, ms_eq]
        · rw [if_neg e, ms_k (by omega)]
          refine j1 q hq ?_
          rcases hk with hk | ⟨j, k1, k2, k3⟩
          · exact Or.inl hk
          · refine Or.inr ⟨j, ?_, k2, k3⟩
            by_cases ej : j = i
            · exact absurd (by rw [← k3, ej]) e
            · omega
      · by_cases e : k = 283 + 4 * (gtL (od V (cv V)) i).2 ∧ j = 7
        · left; omega
        · rw [mset_eq, if_neg e]; exact j2 k j
  · intro n s3 ⟨_, j1, j2⟩
    rw [fX2_findBoards_L24]
    refine iLt0 (fun _ => ?_) (fun h => by omega)
    refine wp_some ⟨?_, fun k j => ?_⟩
    · refine j1 s hs ?_
      by_cases hg : s = gl V
      · exact Or.inl hg
      · have hmem : (oky V (cv V) s, s) ∈ od V (cv V) := bset_mem.mpr ⟨hs, rfl, by
          show 0 ≤ oky V (cv V) s
          have := hb.1 s
          unfold oky; rw [if_neg (by omega)]; omega⟩
        obtain ⟨j, hj, e⟩ := mem_gtL hmem
        exact Or.inr ⟨j, by omega, hj, by rw [e]⟩
    · have a := j2 k j
      have b := hfr0 k j
      omega
  · rw [Nat.sub_self]
    simp only [brF]
    rcases hk with hk | ⟨j, k1, k2, k3⟩
    · rw [hk]; exact hg0
    · omega
theorem r_boardsL (h : OkA t V) (hfu : 1000 < fu) (hR : RefA V σ) (hD : CostR V σ) (hs : s < 10) (hc0 : 0 ≤ cv V s) {Q : Int → Mem → Prop} {K : Mem → PR} {x : Int} (hK : ∀ s2, s2 355 s = brF V (cv V) (od V (cv V)).length s → RP σ s2 → wp (K s2) Q) : wp (bnd (fX7_laysOrder fu σ) (fun _ s4 => wrI s4 355 10 (s4 328 11) 0 (fun s5 => lt ((s5 328 40) - 1) (fun x3 => fX7_boards_L53 fu x K fu x3 s5)))) Q := by
  have ok := h.1
  have hb := cv_ok ok
  have hfix : ∀ s, s < 10 → Tv V (cv V) s = cv V s := fun s hs => cv_fix ok hs
  have hgl := ok.go
  have hn := ok.n
  have hod : (od V (cv V)).length ≤ 10 := odk_len (V := V) (c := cv V) (k := 10)
  refine wp_bnd _ (r_order ok hfu (hR.1.j (by omega)) hb.1 (fun s hs => (hD.1 s hs).1)) ?_
  intro _ s1 ⟨o1, o2⟩
  have e4 : s1 328 11 = V 328 11 := by rw [← hR.1.j (j := 11) (by omega)]; have := o2 328 11; omega
  rw [e4]
  refine wI (gl V) hgl.1.symm hgl.2 (wp_lt ?_)
  rw [ms_k (by omega), o1.1]
  have hfr0 : ∀ k j, k = 355 ∨ k = 354 ∨ (k = 328 ∧ j = 40) ∨ mset s1 355 (gl V) 0 k j = σ k j := by
    intro k j
    by_cases e : k = 355
    · exact Or.inl e
    · rw [ms_k e]
      have := o2 k j
      omega
  have hord : ∀ i, i < (od V (cv V)).length → mset s1 355 (gl V) 0 354 i = ((gtL (od V (cv V)) i).2 : Int) := fun i hi => by rw [ms_k (by omega)]; exact o1.2 i hi
  have hg0 : mset s1 355 (gl V) 0 355 (gl V) = 0 := ms_eq _ _ _ _
  generalize mset s1 355 (gl V) 0 = s2 at *
  refine down1 (f := fX7_boards_L53 fu x K) (od V (cv V)).length (fun i s3 => i ≤ (od V (cv V)).length ∧ (∀ q, q < 10 → Kn V (cv V) ((od V (cv V)).length - i) q → s3 355 q = brF V (cv V) ((od V (cv V)).length - i) q) ∧ ∀ k j, k = 355 ∨ s3 k j = s2 k j) ?_ ?_ (i := (od V (cv V)).length) ⟨Nat.le_refl _, fun q hq hk => ?_, fun k j => Or.inr rfl⟩ rfl
  · intro n i s3 hi ⟨_, j1, j2⟩ hrec
    have hfr3 : ∀ k j, k = 355 ∨ k = 354 ∨ (k = 328 ∧ j = 40) ∨ s3 k j = σ k j := by
      intro k j
      have a := j2 k j
      have b := hfr0 k j
      omega
    have hRP : RP σ s3 := fun k j => by
      have := hfr3 k j
      omega
    have hR3 := hR.mv hRP
    have hD3 : DatR V (cv V) s3 := DatR.mv (σ := σ) ⟨hD.1, hD.2.1⟩ ok (fun k j _ _ => by have := hfr3 k j; omega)
    have e354 : s3 354 i = ((gtL (od V (cv V)) i).2 : Int) := by rw [← hord i hi]; have := j2 354 i; omega
    have hm := od_mem hb hi
    have hf := fs_pos ok hb hm.1 hm.2.1 hm.2.2 (hfix _ hm.1)
    have hd1 : (od V (cv V)).length - i = ((od V (cv V)).length - (i + 1)) + 1 := by omega
    have hd2 : (od V (cv V)).length - ((od V (cv V)).length - (i + 1) + 1) = i := by omega
    have hbr := brF_b ok hb hfix ((od V (cv V)).length - (i + 1)) (by omega)
    have hS := (hD3.1 _ hm.1).2
    have hlen := tk_len (c := cv V) (s := (gtL (od V (cv V)) i).2) ok
    have hfs := fs_b (c := cv V) (s := (gtL (od V (cv V)) i).2) ok
    rw [fX7_boards_L53]
    refine iLt0 (fun h => by omega) (fun _ => ?_)
    refine rI i rfl (by omega) ?_
    rw [e354]
    have hka : ∀ y, y < (tk V (cv V) (gtL (od V (cv V)) i).2).length → s3 355 (ali V (cv V) (gtL (od V (cv V)) i).2 y) = brF V (cv V) ((od V (cv V)).length - (i + 1)) (ali V (cv V) (gtL (od V (cv V)) i).2 y) := fun y hy => by
      have hka := Kn_ali ok hb h.2.1 hfix (d := (od V (cv V)).length - (i + 1)) (by omega) (i := y) (by rw [hd2]; exact hy)
      rw [hd2] at hka
      exact j1 _ hka.2 hka.1
    have hupd : ∀ s4 : Mem, s4 = mset s3 355 (gtL (od V (cv V)) i).2 (bsm V (cv V) (gtL (od V (cv V)) i).2 (brF V (cv V) ((od V (cv V)).length - (i + 1))) (tk V (cv V) (gtL (od V (cv V)) i).2).length / fs V (cv V) (gtL (od V (cv V)) i).2) → wp (fX7_boards_L53 fu x K n ((i : Int) + (-1)) s4) Q := by
      rintro s4 rfl
      refine hrec _ ⟨by omega, fun q hq hk => ?_, fun k j => ?_⟩
      · rw [hd1]
        simp only [brF]
        rw [hd2]
        by_cases e : q = (gtL (od V (cv V)) i).2
        · rw [if_pos e, e, ms_eq]
        · rw [if_neg e, ms_j e]
          refine j1 q hq ?_
          rcases hk with hk | ⟨j, k1, k2, k3⟩
          · exact Or.inl hk
          · refine Or.inr ⟨j, ?_, k2, k3⟩
            by_cases ej : j = i
            · exact absurd (by rw [← k3, ej]) e
            · omega
      · by_cases e : k = 355
        · exact Or.inl e
        · rw [ms_k e]; exact j2 k j
    generalize (gtL (od V (cv V)) i).2 = z at *
    generalize brF V (cv V) ((od V (cv V)).length - (i + 1)) = B at *
    refine for2 (f := fX7_boards_L70 fu x (i : Int) (z : Int) _) (tk V (cv V) z).length (fun y w s4 => w = bsm V (cv V) z B y ∧ s3 = s4) ?_ ?_ (i := 0) ⟨rfl, rfl⟩
    · rintro n y w s4 hy ⟨rfl, rfl⟩ hrec2
      have hl := tk_line ok (fun s => (hb.1 s).1) hy
      have hlv := tk_lv ok (fun s => (hb.1 s).1) hy
      have hst := ok.st hl.1 hlv.2.1
      have h8 := ok.len hl.1
      have hfr := ok.fr (gtL (tk V (cv V) z) y).2
      have hBi := hbr (ali V (cv V) z y)
      rw [fX7_boards_L70]
      refine rI z rfl hm.1 ?_
      rw [hS.1]
      refine iLe (fun h => by omega) (fun _ => ?_)
      refine rI (12 * z + y) (by omega) (by omega) ?_
      rw [hS.2.2 y hy]
      refine rI (gtL (tk V (cv V) z) y).2 rfl (by omega) ?_
      rw [hR3.1.2 329 _ (by omega) (by omega)]
      refine wp_bnd _ (r_placeOf ok hfu hR3.1 hl.1 hm.1) ?_
      rintro q s5 ⟨rfl, rfl⟩
      rw [if_pos (by omega)]
      refine wp_bnd _ (r_leaves ok hfu hl.1 (hD3.2 _ hl.1) hlv.1 hlv.2.1 hlv.2.2.1 hlv.2.2.2.1) ?_
      rintro q s5 ⟨rfl, rfl⟩
      unfold fX7_at
      refine wp_bs ?_
      refine rI (8 * (gtL (tk V (cv V) z) y).2 + lvq V (cv V) (gtL (tk V (cv V) z) y).2 (plc V (gtL (tk V (cv V) z) y).2 z)) (by omega) (by omega) ?_
      rw [hR3.1.2 331 _ (by omega) (by omega)]
      refine rI (ali V (cv V) z y) hst.1.symm hst.2 (wp_lt ?_)
      have e329 : V 329 (gtL (tk V (cv V) z) y).2 = frv V (gtL (tk V (cv V) z) y).2 := by unfold frv; rw [if_pos hl.1]
      rw [hka y hy, e329, w32_sm (x := frv V (gtL (tk V (cv V) z) y).2) (by omega) (by omega)]
      exact hrec2 _ _ ⟨rfl, rfl⟩
    · rintro n w s4 ⟨rfl, rfl⟩
      rw [fX7_boards_L70]
      refine rI z rfl hm.1 ?_
      rw [hS.1]
      refine iLe (fun _ => ?_) (fun h => by omega)
      refine rI z rfl hm.1 ?_
      rw [hS.2.1, w32_sm (x := fs V (cv V) z) (by omega) (by omega)]
      refine wp_dv64 ⟨by omega, by omega⟩ (by omega) ?_
      have hbb := bsm_b (c := cv V) (s := z) (B := B) (M := 10000) ok (fun q => by have := hbr q; omega) (tk V (cv V) z).length
      rw [frk_fs] at hbb
      rw [div64_eq ⟨by omega, by omega⟩ ⟨by omega, by omega⟩ hf.1, Int.tdiv_eq_ediv_of_nonneg hbb.1]
      refine wI z rfl hm.1 ?_
      exact hupd _ rfl
  · intro n s3 ⟨_, j1, j2⟩
    rw [fX7_boards_L53]
    refine iLt0 (fun _ => ?_) (fun h => by omega)
    refine hK s3 ?_ (fun k j => ?_)
    · refine j1 s hs ?_
      by_cases hg : s = gl V
      · exact Or.inl hg
      · have hmem : (oky V (cv V) s, s) ∈ od V (cv V) := bset_mem.mpr ⟨hs, rfl, by
          show 0 ≤ oky V (cv V) s
          have := hb.1 s
          unfold oky; rw [if_neg (by omega)]; omega⟩
        obtain ⟨j, hj, e⟩ := mem_gtL hmem
        exact Or.inr ⟨j, by omega, hj, by rw [e]⟩
    · have a := j2 k j
      have b := hfr0 k j
      omega
  · rw [Nat.sub_self]
    simp only [brF]
    rcases hk with hk | ⟨j, k1, k2, k3⟩
    · rw [hk]; exact hg0
    · omega
theorem op_boards (h : OkA t V) (hfu : 1000 < fu) (ha : R32 a) : Op t V (fX6_boards fu a) (fX7_boards fu a) := by
  by_cases hc : 0 ≤ a ∧ a < 10
  · obtain ⟨s, rfl⟩ := Int.eq_ofNat_of_zero_le hc.1
    have hs : s < 10 := by omega
    have hv := cv_b h.1 s
    refine op_same h (if cv V s < 0 then -2 else brF V (cv V) (od V (cv V)).length s) (fun σ hC => ?_) (fun σ hR => ?_)
    · unfold fX6_boards
      refine wp_bnd _ (c_isStop fu σ ha) ?_
      rintro x s' ⟨h0, h1, rfl⟩
      refine iNe0 (fun _ => ?_) (fun h => by omega)
      refine wp_bnd _ (c_find h hfu hC) ?_
      intro _ s2 ⟨d1, d2, d3, d4⟩
      refine rS s rfl hs ?_
      rw [(d1.1 s hs).1]
      refine iNe (fun g => ?_) (fun g => wp_some ⟨by rw [if_pos (by omega)], d4⟩)
      refine wp_bnd _ (c_findBoards h hfu d2 d1 hs (by omega)) ?_
      intro _ s3 ⟨e1, e2⟩
      refine rS s rfl hs ?_
      exact wp_some ⟨by rw [if_neg (by omega)]; exact e1, d4.trans e2⟩
    · unfold fX7_boards
      refine wp_stf ?_
      refine wp_bnd _ (r_isStop fu _ ha) ?_
      rintro x s' ⟨h0, h1, rfl⟩
      refine iNe0 (fun _ => ?_) (fun h => by omega)
      refine wp_bnd _ (r_lays h hfu hR.s20) ?_
      intro _ s2 ⟨d1, d2, d3, d4⟩
      have hrp := (rp20 σ 0).trans d4
      refine rI s rfl hs ?_
      rw [(d1.1 s hs).1]
      refine jLe (fun g => ?_) (fun g => wp_some ⟨by rw [if_pos (by omega)], hrp⟩)
      refine r_boardsL h hfu d2 d1 hs g (fun s3 e1 e2 => ?_)
      refine rI s rfl hs ?_
      exact wp_some ⟨by rw [if_neg (by omega)]; exact e1, hrp.trans e2⟩
  · refine op_same h (-1) (fun σ hC => ?_) (fun σ hR => ?_)
    · unfold fX6_boards
      refine wp_bnd _ (c_isStop fu σ ha) ?_
      rintro x s' ⟨h0, h1, rfl⟩
      exact iNe0 (fun _ => by omega) (fun h => wp_some ⟨rfl, CP.refl σ⟩)
    · unfold fX7_boards
      refine wp_stf ?_
      refine wp_bnd _ (r_isStop fu _ ha) ?_
      rintro x s' ⟨h0, h1, rfl⟩
      exact iNe0 (fun _ => by omega) (fun h => wp_some ⟨rfl, rp20 σ 0⟩)
end BOARDS
