/-! ===== drops ===== -/
abbrev isA (k : Nat) : Prop := k = 329 ∨ k = 330 ∨ k = 335 ∨ k = 336 ∨ k = 337
abbrev isB (k : Nat) : Prop := k = 331 ∨ k = 332 ∨ k = 333 ∨ k = 334
/-- where a place's number comes from: places of lines d .. a - 1 are moved, of steps to line i and in it to p -/
def dvi (d a i p k j : Nat) : Nat := if isA k ∧ d ≤ j ∧ j < a then j + 1 else if isB k ∧ ((d ≤ j / 8 ∧ j / 8 < i) ∨ (j / 8 = i ∧ j % 8 < p)) then j + 8 else j
def dvm (σ : Mem) (d a i p : Nat) : Mem := fun k j => σ k (dvi d a i p k j)
def drV (V : Mem) (d : Nat) : Mem := dvm (mset V 328 9 (V 328 9 - 1)) d (nn V - 1) (nn V - 1) 0
section DROP
variable {V V' σ σ' X W : Mem} {c rid : Nat → Int} {t k j l p s P fu d i : Nat} {a b v r A B x : Int}
theorem dvi_A {e : Nat} (hk : isA k) : dvi d e i p k j = if d ≤ j ∧ j < e then j + 1 else j := by
  unfold dvi
  by_cases g : d ≤ j ∧ j < e
  · rw [if_pos ⟨hk, g⟩, if_pos g]
  · rw [if_neg (fun q => g q.2), if_neg g, if_neg (by omega)]
theorem dvi_B {e : Nat} (hk : isB k) : dvi d e i p k j = if (d ≤ j / 8 ∧ j / 8 < i) ∨ (j / 8 = i ∧ j % 8 < p) then j + 8 else j := by
  unfold dvi
  rw [if_neg (by omega)]
  by_cases g : (d ≤ j / 8 ∧ j / 8 < i) ∨ (j / 8 = i ∧ j % 8 < p)
  · rw [if_pos ⟨hk, g⟩, if_pos g]
  · rw [if_neg (fun q => g q.2), if_neg g]
theorem dvi_C {e : Nat} (h1 : ¬ isA k) (h2 : ¬ isB k) : dvi d e i p k j = j := by
  unfold dvi; rw [if_neg (fun q => h1 q.1), if_neg (fun q => h2 q.1)]
theorem dvm_A {e : Nat} (hk : isA k) : dvm σ d e i p k j = if d ≤ j ∧ j < e then σ k (j + 1) else σ k j := by
  unfold dvm; rw [dvi_A hk]; split <;> rfl
theorem dvm_B {e : Nat} (hk : isB k) : dvm σ d e i p k j = if (d ≤ j / 8 ∧ j / 8 < i) ∨ (j / 8 = i ∧ j % 8 < p) then σ k (j + 8) else σ k j := by
  unfold dvm; rw [dvi_B hk]; split <;> rfl
theorem dvm_C {e : Nat} (h1 : ¬ isA k) (h2 : ¬ isB k) : dvm σ d e i p k j = σ k j := by
  unfold dvm; rw [dvi_C h1 h2]
theorem dvm_0 : dvm σ d d d 0 = σ := by
  funext k j
  by_cases h1 : isA k
  · rw [dvm_A h1, if_neg (by omega)]
  · by_cases h2 : isB k
    · rw [dvm_B h2, if_neg (by omega)]
    · exact dvm_C h1 h2
theorem dvm_stepA (hi : d ≤ i) (h337 : σ 337 (i + 1) = 0 ∨ σ 337 (i + 1) = 1) : mset (mset (mset (mset (mset (dvm σ d i i 0) 329 i (σ 329 (i + 1))) 330 i (σ 330 (i + 1))) 335 i (σ 335 (i + 1))) 336 i (σ 336 (i + 1))) 337 i (n1 (σ 337 (i + 1))) = dvm σ d (i + 1) i 0 := by
  rw [n1_id h337]
  funext k j
  by_cases h1 : isA k
  · rw [dvm_A h1]
    by_cases e : j = i
    · subst e
      rw [if_pos (by omega)]
      rcases h1 with rfl | rfl | rfl | rfl | rfl
      · rw [ms_k (by omega), ms_k (by omega), ms_k (by omega), ms_k (by omega), ms_eq]
      · rw [ms_k (by omega), ms_k (by omega), ms_k (by omega), ms_eq]
      · rw [ms_k (by omega), ms_k (by omega), ms_eq]
      · rw [ms_k (by omega), ms_eq]
      · rw [ms_eq]
    · rw [ms_j e, ms_j e, ms_j e, ms_j e, ms_j e, dvm_A h1]
      by_cases g : d ≤ j ∧ j < i
      · rw [if_pos g, if_pos (by omega)]
      · rw [if_neg g, if_neg (by omega)]
  · rw [ms_k (by omega), ms_k (by omega), ms_k (by omega), ms_k (by omega), ms_k (by omega)]
    by_cases h2 : isB k
    · rw [dvm_B h2, dvm_B h2]
    · rw [dvm_C h1 h2, dvm_C h1 h2]
theorem dvm_stepB (hp : p < 8) : mset (mset (mset (mset (dvm σ d (i + 1) i p) 331 (8 * i + p) (σ 331 (8 * (i + 1) + p))) 332 (8 * i + p) (σ 332 (8 * (i + 1) + p))) 333 (8 * i + p) (σ 333 (8 * (i + 1) + p))) 334 (8 * i + p) (σ 334 (8 * (i + 1) + p)) = dvm σ d (i + 1) i (p + 1) := by
  funext k j
  by_cases h2 : isB k
  · rw [dvm_B h2]
    by_cases e : j = 8 * i + p
    · rw [if_pos (by omega), show j + 8 = 8 * (i + 1) + p by omega, e]
      rcases h2 with rfl | rfl | rfl | rfl
      · rw [ms_k (by omega), ms_k (by omega), ms_k (by omega), ms_eq]
      · rw [ms_k (by omega), ms_k (by omega), ms_eq]
      · rw [ms_k (by omega), ms_eq]
      · rw [ms_eq]
    · rw [ms_j e, ms_j e, ms_j e, ms_j e, dvm_B h2]
      by_cases g : (d ≤ j / 8 ∧ j / 8 < i) ∨ (j / 8 = i ∧ j % 8 < p)
      · rw [if_pos g, if_pos (by omega)]
      · rw [if_neg g, if_neg (by omega)]
  · rw [ms_k (by omega), ms_k (by omega), ms_k (by omega), ms_k (by omega)]
    by_cases h1 : isA k
    · rw [dvm_A h1, dvm_A h1]
    · rw [dvm_C h1 h2, dvm_C h1 h2]
theorem dvm_next (hi : d ≤ i) : dvm σ d (i + 1) i 8 = dvm σ d (i + 1) (i + 1) 0 := by
  funext k j
  by_cases h1 : isA k
  · rw [dvm_A h1, dvm_A h1]
  · by_cases h2 : isB k
    · rw [dvm_B h2, dvm_B h2]
      by_cases g : (d ≤ j / 8 ∧ j / 8 < i) ∨ (j / 8 = i ∧ j % 8 < 8)
      · rw [if_pos g, if_pos (by omega)]
      · rw [if_neg g, if_neg (by omega)]
    · rw [dvm_C h1 h2, dvm_C h1 h2]
/-- which line a line is then -/
def gdr (d m : Nat) : Nat := if m < d then m else m + 1
theorem drV_A {m : Nat} (hk : isA k) (hm : m + 1 < nn V) : drV V d k m = V k (gdr d m) := by
  unfold drV gdr
  rw [dvm_A hk]
  by_cases g : m < d
  · rw [if_pos g, if_neg (by omega), ms_k (by omega)]
  · rw [if_neg g, if_pos (by omega), ms_k (by omega)]
theorem drV_B {m q : Nat} (hk : isB k) (hm : m + 1 < nn V) (hq : q < 8) : drV V d k (8 * m + q) = V k (8 * gdr d m + q) := by
  unfold drV gdr
  rw [dvm_B hk]
  by_cases g : m < d
  · rw [if_pos g, if_neg (by omega), ms_k (by omega)]
  · rw [if_neg g, if_pos (by omega), ms_k (by omega), show 8 * m + q + 8 = 8 * (m + 1) + q by omega]
theorem drV_C (h1 : ¬ isA k) (h2 : ¬ isB k) (h3 : ¬ (k = 328 ∧ j = 9)) : drV V d k j = V k j := by
  unfold drV; rw [dvm_C h1 h2, mset_eq, if_neg h3]
theorem drV_9 : drV V d 328 9 = V 328 9 - 1 := by
  unfold drV; rw [dvm_C (by omega) (by omega), ms_eq]
theorem drV_nn (ok : OkN V) (hd : d < nn V) : nn (drV V d) = nn V - 1 := by
  have hn := ok.n
  unfold nn at *; rw [drV_9]; omega
theorem drV_ln {m : Nat} (hm : m + 1 < nn V) : ln (drV V d) m = ln V (gdr d m) := by unfold ln; rw [drV_A (by omega) hm]
theorem gdr_lt {m : Nat} (hd : d < nn V) (hm : m + 1 < nn V) : gdr d m < nn V := by unfold gdr; split <;> omega
theorem drV_ok (h : OkA t V) (hd : d < nn V) : OkA (t + 1) (drV V d) := by
  obtain ⟨ok, q37, ⟨q13, q13b, st⟩, q17, q19⟩ := h
  have hn := ok.n
  obtain ⟨o1, o2, o3, o4, o5, o6⟩ := id ok
  refine ⟨⟨by rw [drV_9]; omega, by rw [drV_C (by omega) (by omega) (by omega)]; exact o2, by rw [drV_C (by omega) (by omega) (by omega)]; exact o3, by rw [drV_C (by omega) (by omega) (by omega)]; exact o4, fun s hs => by rw [drV_C (by omega) (by omega) (by omega), drV_C (by omega) (by omega) (by omega)]; exact o5 s hs, fun m hm => ?_⟩, by rw [drV_C (by omega) (by omega) (by omega)]; exact q37, ⟨by rw [drV_C (by omega) (by omega) (by omega)]; exact q13, by rw [drV_C (by omega) (by omega) (by omega)]; omega, fun m hm q hq => ?_⟩, by rw [drV_C (by omega) (by omega) (by omega)]; exact q17, by rw [drV_C (by omega) (by omega) (by omega)]; exact q19⟩
  · rw [drV_nn ok hd] at hm
    have hm1 : m + 1 < nn V := by omega
    have hg := gdr_lt hd hm1
    have hx := o6 _ hg
    have h8 := ok.len hg
    unfold OkL at hx ⊢
    rw [drV_ln hm1, drV_A (by omega) hm1, drV_A (by omega) hm1, drV_A (by omega) hm1, drV_A (by omega) hm1, drV_A (by omega) hm1]
    refine ⟨hx.1, hx.2.1, hx.2.2.1, hx.2.2.2.1, hx.2.2.2.2.1, fun q hq => ?_, fun q q' hq hq' => ?_, fun q hq => ?_⟩
    · rw [drV_B (by omega) hm1 (by omega)]; exact hx.2.2.2.2.2.1 q hq
    · rw [drV_B (by omega) hm1 (by omega), drV_B (by omega) hm1 (by omega)]; exact hx.2.2.2.2.2.2.1 q q' hq hq'
    · rw [drV_B (by omega) hm1 (by omega), drV_B (by omega) hm1 (by omega), drV_B (by omega) hm1 (by omega)]; exact hx.2.2.2.2.2.2.2 q hq
  · rw [drV_nn ok hd] at hm
    have hm1 : m + 1 < nn V := by omega
    have hg := gdr_lt hd hm1
    have h8 := ok.len hg
    rw [drV_ln hm1] at hq
    rw [drV_B (by omega) hm1 (by omega), drV_B (by omega) hm1 (by omega)]
    exact st _ hg q hq
def gmp (d n m : Nat) : Nat := if m < d then m else if m + 1 < n then m + 1 else if m = n - 1 then d else m
theorem gmp_cases (d n m : Nat) : (m < d ∧ gmp d n m = m) ∨ (d ≤ m ∧ m + 1 < n ∧ gmp d n m = m + 1) ∨ (d ≤ m ∧ ¬ m + 1 < n ∧ m = n - 1 ∧ gmp d n m = d) ∨ (d ≤ m ∧ ¬ m + 1 < n ∧ m ≠ n - 1 ∧ gmp d n m = m) := by
  unfold gmp
  by_cases g1 : m < d
  · rw [if_pos g1]; omega
  · rw [if_neg g1]
    by_cases g2 : m + 1 < n
    · rw [if_pos g2]; omega
    · rw [if_neg g2]
      by_cases g3 : m = n - 1
      · rw [if_pos g3]; omega
      · rw [if_neg g3]; omega
theorem gmp_inj {n m m' : Nat} (hd : d < n) (e : gmp d n m = gmp d n m') : m = m' := by
  have h1 := gmp_cases d n m
  have h2 := gmp_cases d n m'
  omega
theorem c_drop (h : OkA t V) (hfu : 1000 < fu) (hd : d < nn V) (hC : ClsA V σ) : wp (fX2_removeLine fu (d : Int) σ) (fun _ s => ClsA (drV V d) s ∧ s 136 1 = V 328 9 - 1 ∧ Hi σ s) := by
  have ok := h.1
  have hn := ok.n
  have hT := hC.1.1.1
  unfold fX2_removeLine
  refine wp_rfd (rR d rfl (by omega) ?_)
  rw [show pl (σ (pl (σ 136 0)) d) = PL σ d from rfl]
  generalize hTe : pl (σ 136 0) = T at *
  have hPLe : ∀ m, PL σ m = pl (σ T m) := fun m => by unfold PL; rw [hTe]
  refine for1 (f := fX2_removeLine_L9 fu (PL σ d) _) (nn V - 1) (fun i s => d ≤ i ∧ (∀ m, m < 12 → pl (s T m) = if d ≤ m ∧ m < i then PL σ (m + 1) else PL σ m) ∧ ∀ k j, k = T ∨ s k j = σ k j) ?_ ?_ (i := d) ⟨Nat.le_refl _, fun m hm => by rw [if_neg (by omega)]; exact (hPLe m).symm, fun k j => Or.inr rfl⟩
  · intro n i s hi ⟨j0, j1, j2⟩ hrec
    have e1 : s 136 1 = V 328 9 := by rw [← hC.1.2.1]; have := j2 136 1; omega
    have e0 : pl (s 136 0) = T := by rw [← hTe]; have := j2 136 0; rw [this.resolve_left (by omega)]
    rw [fX2_removeLine_L9, e1]
    refine iLe (fun h => by omega) (fun _ => ?_)
    refine wp_rfd (wp_rfd ?_)
    rw [e0]
    refine rR (i + 1) (by omega) (by omega) ?_
    refine wI i rfl (by omega) (hrec _ ⟨by omega, fun m hm => ?_, fun k j => ?_⟩)
    · by_cases e : m = i
      · subst e
        rw [ms_eq, j1 (m + 1) (by omega), if_neg (by omega)]
        by_cases g : d ≤ m
        · rw [if_pos (by omega)]
          unfold pl
          rw [Int.toNat_natCast]
          omega
        · rw [if_neg (by omega)]
          omega
      · rw [ms_j e, j1 m hm]
        by_cases g : d ≤ m ∧ m < i
        · rw [if_pos g, if_pos (by omega)]
        · rw [if_neg g, if_neg (by omega)]
    · by_cases e : k = T
      · exact Or.inl e
      · rw [ms_k e]; exact j2 k j
  · intro n s ⟨j0, j1, j2⟩
    have e1 : s 136 1 = V 328 9 := by rw [← hC.1.2.1]; have := j2 136 1; omega
    have e0 : pl (s 136 0) = T := by rw [← hTe]; have := j2 136 0; rw [this.resolve_left (by omega)]
    rw [fX2_removeLine_L9, e1]
    refine iLe (fun _ => ?_) (fun h => by omega)
    refine wp_stf (wp_rfd ?_)
    rw [ms_eq, ms_j (by omega), e0]
    refine wI (nn V - 1) (by omega) (by omega) ?_
    have hfr : ∀ k j, ¬ (k = 136 ∧ j = 1) → k ≠ T → mset (mset s 136 1 (V 328 9 - 1)) T (nn V - 1) ((PL σ d + 1 : Nat) : Int) k j = σ k j := fun k j g1 g2 => by
      rw [ms_k g2, mset_eq, if_neg g1]; exact (j2 k j).resolve_left g2
    have hT12 : ∀ m, m < 12 → pl (mset (mset s 136 1 (V 328 9 - 1)) T (nn V - 1) ((PL σ d + 1 : Nat) : Int) T m) = PL σ (gmp d (nn V) m) := fun m hm => by
      have hg := gmp_cases d (nn V) m
      by_cases e : m = nn V - 1
      · have eg : gmp d (nn V) m = d := by omega
        rw [eg, e, ms_eq]
        unfold pl; rw [Int.toNat_natCast]; omega
      · rw [ms_j e, ms_k (by omega), j1 m hm]
        by_cases g : d ≤ m ∧ m < nn V - 1
        · rw [if_pos g, show gmp d (nn V) m = m + 1 by omega]
        · rw [if_neg g, show gmp d (nn V) m = m by omega]
    have hc1 : mset (mset s 136 1 (V 328 9 - 1)) T (nn V - 1) ((PL σ d + 1 : Nat) : Int) 136 1 = V 328 9 - 1 := by rw [ms_k (by omega), ms_eq]
    generalize mset (mset s 136 1 (V 328 9 - 1)) T (nn V - 1) ((PL σ d + 1 : Nat) : Int) = s2 at *
    have hc0 : s2 136 0 = σ 136 0 := hfr _ _ (by omega) (by omega)
    have hPL2 : ∀ m, m < 12 → PL s2 m = PL σ (gmp d (nn V) m) := fun m hm => by
      rw [← hT12 m hm]; unfold PL; rw [hc0, hTe]
    have hQL2 : ∀ m, QL s2 m = QL σ m := fun m => by
      unfold QL
      rw [hfr 1 2 (by omega) (by omega), hfr _ _ (by omega) (by omega)]
    have hmap : ∀ m, m < 12 → gmp d (nn V) m < 12 := fun m hm => by
      have hg := gmp_cases d (nn V) m
      omega
    have hTab : Tab s2 := by
      obtain ⟨t1, t2, t3, t4, t5, t6⟩ := hC.1.1
      refine ⟨?_, fun m hm => ?_, fun m hm => ?_, fun m m' hm hm' e => ?_, fun m m' hm hm' e => ?_, fun m m' hm hm' => ?_⟩
      · rw [hc0, hfr 1 2 (by omega) (by omega)]; exact t1
      · rw [hPL2 m hm]; exact t2 _ (hmap m hm)
      · rw [hQL2]; exact t3 m hm
      · rw [hPL2 m hm, hPL2 m' hm'] at e
        exact gmp_inj hd (t4 _ _ (hmap m hm) (hmap m' hm') e)
      · rw [hQL2, hQL2] at e; exact t5 m m' hm hm' e
      · rw [hPL2 m hm, hQL2]; exact t6 _ _ (hmap m hm) hm'
    have hcls : Cls (drV V d) s2 := by
      obtain ⟨x1, x2, x3, x4, x5, x6, x7, x8⟩ := hC.1
      refine ⟨hTab, by rw [hc1, drV_9], by rw [hfr _ _ (by omega) (by omega), drV_C (by omega) (by omega) (by omega)]; exact x3, by rw [hfr _ _ (by omega) (by omega), drV_C (by omega) (by omega) (by omega)]; exact x4, by rw [hfr _ _ (by omega) (by omega), drV_C (by omega) (by omega) (by omega)]; exact x5, by rw [hfr _ _ (by omega) (by omega), drV_C (by omega) (by omega) (by omega)]; exact x6, fun q hq => by rw [hfr _ _ (by omega) (by omega), hfr _ _ (by omega) (by omega), drV_C (by omega) (by omega) (by omega), drV_C (by omega) (by omega) (by omega)]; exact x7 q hq, fun m hm => ?_⟩
      rw [drV_nn ok hd] at hm
      have hm1 : m + 1 < nn V := by omega
      have hg := gdr_lt hd hm1
      have hP := hC.1.isL ok hg
      have h8 := ok.len hg
      have e : PL s2 m = PL σ (gdr d m) := by
        rw [hPL2 m (by omega)]; unfold gdr
        have hgc := gmp_cases d (nn V) m
        by_cases g : m < d
        · rw [if_pos g, show gmp d (nn V) m = m by omega]
        · rw [if_neg g, show gmp d (nn V) m = m + 1 by omega]
      rw [e]
      obtain ⟨y1, y2, y3, y4, y5, y6, y7⟩ := x8 _ hg
      refine ⟨?_, ?_, ?_, ?_, ?_, fun q hq => ?_, fun q hq => ?_⟩
      · rw [hfr _ _ (by omega) (by omega), drV_A (by omega) hm1]; exact y1
      · rw [hfr _ _ (by omega) (by omega), drV_A (by omega) hm1]; exact y2
      · rw [hfr _ _ (by omega) (by omega), drV_A (by omega) hm1]; exact y3
      · rw [hfr _ _ (by omega) (by omega), drV_A (by omega) hm1]; exact y4
      · rw [hfr _ _ (by omega) (by omega), drV_A (by omega) hm1]; exact y5
      · rw [drV_ln hm1] at hq
        rw [hfr _ _ (by omega) (by omega), drV_B (by omega) hm1 (by omega)]; exact y6 q hq
      · rw [drV_ln hm1] at hq
        rw [hfr _ _ (by omega) (by omega), hfr _ _ (by omega) (by omega), hfr _ _ (by omega) (by omega), drV_B (by omega) hm1 (by omega), drV_B (by omega) hm1 (by omega), drV_B (by omega) hm1 (by omega)]; exact y7 q hq
    exact wp_some ⟨hC.of hcls (fun k j hk => hfr _ _ (by omega) (by omega)) (drV_C (by omega) (by omega) (by omega)) (drV_C (by omega) (by omega) (by omega)) (fun i => drV_C (by omega) (by omega) (by omega)) (fun i => drV_C (by omega) (by omega) (by omega)), hc1, fun k j hk => hfr _ _ (by omega) (by omega)⟩
theorem op_drops (h : OkA t V) (hfu : 1000 < fu) (ha : R32 a) : Op t V (fX6_drops fu a) (fX7_drops fu a) := by
  have ok := h.1
  have hn := ok.n
  by_cases hc : 0 ≤ a ∧ a < V 328 9
  · obtain ⟨d, rfl⟩ := Int.eq_ofNat_of_zero_le hc.1
    have hd : d < nn V := by omega
    refine ⟨V 328 9 - 1, drV V d, drV_ok h hd, fun σ hC => ?_, fun σ hR => ?_⟩
    · unfold fX6_drops
      refine wp_bnd _ (c_hasLine h.1 hC.1 ha) ?_
      rintro x s' ⟨h0, h1, rfl⟩
      refine iNe0 (fun _ => ?_) (fun h => by omega)
      refine wp_bnd _ (c_drop h hfu hd hC) ?_
      intro _ s2 ⟨e1, e2, e3⟩
      exact wp_some ⟨e2, e1, e3⟩
    · unfold fX7_drops
      refine wp_stf ?_
      refine wp_bnd _ (r_isLine h.1 hR.s20.1 ha) ?_
      rintro x s' ⟨h0, h1, rfl⟩
      refine iNe0 (fun _ => ?_) (fun h => by omega)
      refine wp_stf ?_
      have hR' := hR.s20 (v := 0)
      have hlo : Lo σ (mset σ 328 20 0) := lo20 σ 0
      generalize mset σ 328 20 0 = s1 at *
      rw [hR'.1.j (by omega)]
      have h9 : mset s1 328 9 (V 328 9 - 1) 328 9 = V 328 9 - 1 := ms_eq _ _ _ _
      have hA : ∀ k j, ¬ (k = 328 ∧ j = 9) → mset s1 328 9 (V 328 9 - 1) k j = s1 k j := fun k j g => by rw [mset_eq, if_neg g]
      generalize mset s1 328 9 (V 328 9 - 1) = s0 at *
      refine for1 (f := fX7_drops_L27 fu _) (nn V - 1) (fun i s => s = dvm s0 d i i 0 ∧ d ≤ i) ?_ ?_ (i := d) ⟨dvm_0.symm, Nat.le_refl _⟩
      · rintro n i s hi ⟨rfl, hdi⟩ hrec
        have h337 : s0 337 (i + 1) = 0 ∨ s0 337 (i + 1) = 1 := by
          rw [hA _ _ (by omega), hR'.1.2 337 _ (by omega) (by omega)]; exact (ok.ok (show i + 1 < nn V by omega)).2.2.2.2.1
        rw [fX7_drops_L27, dvm_C (by omega) (by omega), h9]
        refine iLe (fun h => by omega) (fun _ => ?_)
        refine rI (i + 1) (by omega) (by omega) ?_
        rw [dvm_A (by omega), if_neg (by omega)]
        refine wI i rfl (by omega) (rI (i + 1) (by omega) (by omega) ?_)
        rw [ms_k (by omega), dvm_A (by omega), if_neg (by omega)]
        refine wI i rfl (by omega) (rI (i + 1) (by omega) (by omega) ?_)
        rw [ms_k (by omega), ms_k (by omega), dvm_A (by omega), if_neg (by omega)]
        refine wI i rfl (by omega) (rI (i + 1) (by omega) (by omega) ?_)
        rw [ms_k (by omega), ms_k (by omega), ms_k (by omega), dvm_A (by omega), if_neg (by omega)]
        refine wI i rfl (by omega) (rI (i + 1) (by omega) (by omega) ?_)
        rw [ms_k (by omega), ms_k (by omega), ms_k (by omega), ms_k (by omega), dvm_A (by omega), if_neg (by omega)]
        refine wI i rfl (by omega) ?_
        rw [dvm_stepA hdi h337]
        refine for1 (f := fX7_drops_L107 fu (i : Int) _) 8 (fun p s => s = dvm s0 d (i + 1) i p) ?_ ?_ (i := 0) rfl
        · rintro n p s hp rfl hrec2
          rw [fX7_drops_L107]
          refine iLe (fun h => by omega) (fun _ => ?_)
          unfold fX7_at
          refine wp_bs (wp_bs (rI (8 * (i + 1) + p) (by omega) (by omega) ?_))
          rw [dvm_B (by omega), if_neg (by omega)]
          refine wI (8 * i + p) (by omega) (by omega) (wp_bs (wp_bs (rI (8 * (i + 1) + p) (by omega) (by omega) ?_)))
          rw [ms_k (by omega), dvm_B (by omega), if_neg (by omega)]
          refine wI (8 * i + p) (by omega) (by omega) (wp_bs (wp_bs (rI (8 * (i + 1) + p) (by omega) (by omega) ?_)))
          rw [ms_k (by omega), ms_k (by omega), dvm_B (by omega), if_neg (by omega)]
          refine wI (8 * i + p) (by omega) (by omega) (wp_bs (wp_bs (rI (8 * (i + 1) + p) (by omega) (by omega) ?_)))
          rw [ms_k (by omega), ms_k (by omega), ms_k (by omega), dvm_B (by omega), if_neg (by omega)]
          refine wI (8 * i + p) (by omega) (by omega) ?_
          rw [dvm_stepB hp]
          exact hrec2 _ rfl
        · rintro n s rfl
          rw [fX7_drops_L107]
          refine iLe (fun _ => ?_) (fun h => by omega)
          exact hrec _ ⟨dvm_next hdi, by omega⟩
      · rintro n s ⟨rfl, hdi⟩
        rw [fX7_drops_L27, dvm_C (by omega) (by omega), h9]
        refine iLe (fun _ => ?_) (fun h => by omega)
        obtain ⟨r1, r2, r3, r4, r5, r6⟩ := hR'
        refine wp_some ⟨rfl, ⟨⟨fun j hj => ?_, fun k j b1 b2 => ?_⟩, fun q hq => ?_, ?_, fun i => ?_, ?_, fun i => ?_⟩, fun k j hk => ?_⟩
        · rw [dvm_C (by omega) (by omega)]
          by_cases e : j = 9
          · rw [e, drV_9, h9]
          · rw [drV_C (by omega) (by omega) (by omega), hA _ _ (by omega)]; exact r1.1 j hj
        · unfold drV dvm
          rw [hA _ _ (by omega), ms_k (by omega)]; exact r1.2 k _ b1 b2
        · rw [dvm_C (by omega) (by omega), drV_C (by omega) (by omega) (by omega), hA _ _ (by omega)]; exact r2 q hq
        · rw [dvm_C (by omega) (by omega), drV_C (by omega) (by omega) (by omega), hA _ _ (by omega)]; exact r3
        · rw [dvm_C (by omega) (by omega), drV_C (by omega) (by omega) (by omega), hA _ _ (by omega)]; exact r4 i
        · rw [dvm_C (by omega) (by omega), drV_C (by omega) (by omega) (by omega), hA _ _ (by omega)]; exact r5
        · rw [dvm_C (by omega) (by omega), drV_C (by omega) (by omega) (by omega), hA _ _ (by omega)]; exact r6 i
        · rw [dvm_C (by omega) (by omega), hA _ _ (by omega)]; exact hlo k j hk
  · refine op_same h (-1) (fun σ hC => ?_) (fun σ hR => ?_)
    · unfold fX6_drops
      refine wp_bnd _ (c_hasLine h.1 hC.1 ha) ?_
      rintro x s' ⟨h0, h1, rfl⟩
      exact iNe0 (fun _ => by omega) (fun h => wp_some ⟨rfl, CP.refl σ⟩)
    · unfold fX7_drops
      refine wp_stf ?_
      refine wp_bnd _ (r_isLine h.1 hR.s20.1 ha) ?_
      rintro x s' ⟨h0, h1, rfl⟩
      exact iNe0 (fun _ => by omega) (fun h => wp_some ⟨rfl, rp20 σ 0⟩)
end DROP
