abbrev rgX1_init : Room := { frames := 1, cells := 10, slots := 80, locals := 20 }
set_option maxHeartbeats 4000000 in
set_option maxRecDepth 100000 in
theorem cgX1_init (B L : Nat) (hL : kd L = 1) (σ : Mem) (hz : ∀ k, L ≤ k → ∀ j, σ k j = 0) : CtG yX1_init cX1_init 1 rgX1_init B [rv B L] (L + 1) σ (L + 11) (fl L (L + 11) σ) 10 80 := by
  refine ctG_intro (own := RX1) (lv := [(0, rv B L)]) (by decide +kernel) rfl rfl (Nat.le_of_ble_eq_true rfl) rfl (fun X hI hX => ?_)
  refine g_eq (setrow_zero (k := L) 15 (hz L (Nat.le_refl _))) ?_
  refine g_aload_n 0 dX1_init_0 rfl rfl ?_
  refine g_objinit dX1_init_1 oi_X1 oi_inst oi_code ⟨by decide, by decide⟩ (Nat.le_of_ble_eq_true rfl) ?_
  refine g_aload_n 0 dX1_init_4 rfl rfl ?_
  refine g_iconst dX1_init_5 ?_
  refine g_putI dX1_init_6 ly1 ty1 gl_X1_9 hL (by omega) rfl po1_0 (Nat.le_of_ble_eq_true rfl) ?_
  refine g_aload_n 0 dX1_init_9 rfl rfl ?_
  refine g_bipush dX1_init_10 (by decide) ?_
  refine g_putI dX1_init_12 ly1 ty1 gl_X1_15 hL (by omega) rfl po1_2 (Nat.le_of_ble_eq_true rfl) ?_
  refine g_aload_n 0 dX1_init_15 rfl rfl ?_
  refine g_bipush dX1_init_16 (by decide) ?_
  refine g_newa_int 8 dX1_init_18 ac_int (kdL1 hL) (by decide) (by decide) (by decide) ⟨by decide, by decide⟩ ?_
  refine g_putRF hI dX1_init_20 ly1 ty1 gl_X1_18 hL (by omega) rfl pf1_5 (Nat.le_of_ble_eq_true rfl) ?_
  refine g_aload_n 0 dX1_init_23 rfl rfl ?_
  refine g_bipush dX1_init_24 (by decide) ?_
  refine g_newa_int 8 dX1_init_26 ac_int (kdL2 hL) (by decide) (by decide) (by decide) ⟨by decide, by decide⟩ ?_
  refine g_putRF hI dX1_init_28 ly1 ty1 gl_X1_22 hL (by omega) rfl pf1_6 (Nat.le_of_ble_eq_true rfl) ?_
  refine g_aload_n 0 dX1_init_31 rfl rfl ?_
  refine g_bipush dX1_init_32 (by decide) ?_
  refine g_newa_int 8 dX1_init_34 ac_int (kdL3 hL) (by decide) (by decide) (by decide) ⟨by decide, by decide⟩ ?_
  refine g_putRF hI dX1_init_36 ly1 ty1 gl_X1_25 hL (by omega) rfl pf1_7 (Nat.le_of_ble_eq_true rfl) ?_
  refine g_aload_n 0 dX1_init_39 rfl rfl ?_
  refine g_bipush dX1_init_40 (by decide) ?_
  refine g_newa_int 8 dX1_init_42 ac_int (kdL4 hL) (by decide) (by decide) (by decide) ⟨by decide, by decide⟩ ?_
  refine g_putRF hI dX1_init_44 ly1 ty1 gl_X1_28 hL (by omega) rfl pf1_8 (Nat.le_of_ble_eq_true rfl) ?_
  refine g_aload_n 0 dX1_init_47 rfl rfl ?_
  refine g_bipush dX1_init_48 (by decide) ?_
  refine g_newa_int 8 dX1_init_50 ac_int (kdL5 hL) (by decide) (by decide) (by decide) ⟨by decide, by decide⟩ ?_
  refine g_putRF hI dX1_init_52 ly1 ty1 gl_X1_31 hL (by omega) rfl pf1_9 (Nat.le_of_ble_eq_true rfl) ?_
  refine g_aload_n 0 dX1_init_55 rfl rfl ?_
  refine g_bipush dX1_init_56 (by decide) ?_
  refine g_newa_int 8 dX1_init_58 ac_int (kdL6 hL) (by decide) (by decide) (by decide) ⟨by decide, by decide⟩ ?_
  refine g_putRF hI dX1_init_60 ly1 ty1 gl_X1_34 hL (by omega) rfl pf1_10 (Nat.le_of_ble_eq_true rfl) ?_
  refine g_aload_n 0 dX1_init_63 rfl rfl ?_
  refine g_bipush dX1_init_64 (by decide) ?_
  refine g_newa_boolean 8 dX1_init_66 ac_boolean (kdL7 hL) (by decide) (by decide) (by decide) ⟨by decide, by decide⟩ ?_
  refine g_putRF hI dX1_init_68 ly1 ty1 gl_X1_37 hL (by omega) rfl pf1_11 (Nat.le_of_ble_eq_true rfl) ?_
  refine g_aload_n 0 dX1_init_71 rfl rfl ?_
  refine g_bipush dX1_init_72 (by decide) ?_
  refine g_newa_int 8 dX1_init_74 ac_int (kdL8 hL) (by decide) (by decide) (by decide) ⟨by decide, by decide⟩ ?_
  refine g_putRF hI dX1_init_76 ly1 ty1 gl_X1_41 hL (by omega) rfl pf1_12 (Nat.le_of_ble_eq_true rfl) ?_
  refine g_aload_n 0 dX1_init_79 rfl rfl ?_
  refine g_bipush dX1_init_80 (by decide) ?_
  refine g_newa_int 8 dX1_init_82 ac_int (kdL9 hL) (by decide) (by decide) (by decide) ⟨by decide, by decide⟩ ?_
  refine g_putRF hI dX1_init_84 ly1 ty1 gl_X1_44 hL (by omega) rfl pf1_13 (Nat.le_of_ble_eq_true rfl) ?_
  refine g_aload_n 0 dX1_init_87 rfl rfl ?_
  refine g_bipush dX1_init_88 (by decide) ?_
  refine g_newa_int 8 dX1_init_90 ac_int (kdL10 hL) (by decide) (by decide) (by decide) ⟨by decide, by decide⟩ ?_
  refine g_putRF hI dX1_init_92 ly1 ty1 gl_X1_47 hL (by omega) rfl pf1_14 (Nat.le_of_ble_eq_true rfl) ?_
  refine g_eq (σ2 := fl L (L + 11) σ) (fl_one (by omega) (by unfold m0l; rw [hL]; rfl) hz (fun k h1 h2 => by rcases (show k = L + 1 ∨ k = L + 2 ∨ k = L + 3 ∨ k = L + 4 ∨ k = L + 5 ∨ k = L + 6 ∨ k = L + 7 ∨ k = L + 8 ∨ k = L + 9 ∨ k = L + 10 by omega) with rfl | rfl | rfl | rfl | rfl | rfl | rfl | rfl | rfl | rfl <;> simp [kdL1 hL, kdL2 hL, kdL3 hL, kdL4 hL, kdL5 hL, kdL6 hL, kdL7 hL, kdL8 hL, kdL9 hL, kdL10 hL, plain])) ?_
  exact g_vret hX dX1_init_95
abbrev rgX4_init : Room := { frames := 1, cells := 3, slots := 36, locals := 20 }
set_option maxHeartbeats 4000000 in
set_option maxRecDepth 100000 in
theorem cgX4_init (B L : Nat) (hL : kd L = 4) (σ : Mem) (hz : ∀ k, L ≤ k → ∀ j, σ k j = 0) : CtG yX4_init cX4_init 1 rgX4_init B [rv B L] (L + 1) σ (L + 4) (fl L (L + 4) σ) 3 36 := by
  refine ctG_intro (own := RX4) (lv := [(0, rv B L)]) (by decide +kernel) rfl rfl (Nat.le_of_ble_eq_true rfl) rfl (fun X hI hX => ?_)
  refine g_eq (setrow_zero (k := L) 12 (hz L (Nat.le_refl _))) ?_
  refine g_aload_n 0 dX4_init_0 rfl rfl ?_
  refine g_objinit dX4_init_1 oi_X4 oi_inst oi_code ⟨by decide, by decide⟩ (Nat.le_of_ble_eq_true rfl) ?_
  refine g_aload_n 0 dX4_init_4 rfl rfl ?_
  refine g_iconst dX4_init_5 ?_
  refine g_putI dX4_init_6 ly4 ty4 gl_X4_9 hL (by omega) rfl po4_2 (Nat.le_of_ble_eq_true rfl) ?_
  refine g_aload_n 0 dX4_init_9 rfl rfl ?_
  refine g_bipush dX4_init_10 (by decide) ?_
  refine g_newa_int 12 dX4_init_12 ac_int (kdS1 hL) (by decide) (by decide) (by decide) ⟨by decide, by decide⟩ ?_
  refine g_putRF hI dX4_init_14 ly4 ty4 gl_X4_15 hL (by omega) rfl pf4_9 (Nat.le_of_ble_eq_true rfl) ?_
  refine g_aload_n 0 dX4_init_17 rfl rfl ?_
  refine g_bipush dX4_init_18 (by decide) ?_
  refine g_newa_int 12 dX4_init_20 ac_int (kdS2 hL) (by decide) (by decide) (by decide) ⟨by decide, by decide⟩ ?_
  refine g_putRF hI dX4_init_22 ly4 ty4 gl_X4_19 hL (by omega) rfl pf4_10 (Nat.le_of_ble_eq_true rfl) ?_
  refine g_aload_n 0 dX4_init_25 rfl rfl ?_
  refine g_bipush dX4_init_26 (by decide) ?_
  refine g_newa_int 12 dX4_init_28 ac_int (kdS3 hL) (by decide) (by decide) (by decide) ⟨by decide, by decide⟩ ?_
  refine g_putRF hI dX4_init_30 ly4 ty4 gl_X4_22 hL (by omega) rfl pf4_11 (Nat.le_of_ble_eq_true rfl) ?_
  refine g_eq (σ2 := fl L (L + 4) σ) (fl_one (by omega) (by unfold m0l; rw [hL]; rfl) hz (fun k h1 h2 => by rcases (show k = L + 1 ∨ k = L + 2 ∨ k = L + 3 by omega) with rfl | rfl | rfl <;> simp [kdS1 hL, kdS2 hL, kdS3 hL, plain])) ?_
  exact g_vret hX dX4_init_33
abbrev rgNL : Room := { frames := 2, cells := 133, slots := 1152, locals := 40 }
theorem NL_k {a : Nat} (ha : a = 3 ∨ a = 137) : kd a = 1000 * 5 + 12 ∧ ∀ i, i < 12 → kd (a + 1 + 11 * i) = 1 := by
  rcases ha with rfl | rfl
  · exact ⟨by decide +kernel, by decide +kernel⟩
  · exact ⟨by decide +kernel, by decide +kernel⟩
/-- the array with i lines in it, and they -/
def nlw (a i : Nat) (σ : Mem) : Mem := fun k => if k = a then (fun j => if j < i then ((a + 1 + 11 * j + 1 : Nat) : Int) else 0) else if a < k ∧ k < a + 1 + 11 * i then M0 k else σ k
theorem nlw_zero {a i : Nat} {σ : Mem} (hz : ∀ k, a ≤ k → ∀ j, σ k j = 0) : ∀ k, a + 1 + 11 * i ≤ k → ∀ j, nlw a i σ k j = 0 := by
  intro k hk j
  unfold nlw
  rw [if_neg (by omega), if_neg (by omega)]
  exact hz k (by omega) j
theorem nlw_step {a i : Nat} {σ : Mem} : mset (fl (a + 1 + 11 * i) (a + 1 + 11 * i + 11) (nlw a i σ)) a i ((a + 1 + 11 * i + 1 : Nat) : Int) = nlw a (i + 1) σ := by
  funext k
  by_cases hk : k = a
  · subst hk
    funext j
    simp only [mset, if_true, nlw, fl]
    rw [if_neg (show ¬ (k + 1 + 11 * i ≤ k ∧ k < k + 1 + 11 * i + 11) by omega)]
    by_cases hj : j = i
    · subst hj; simp
    · rw [if_neg hj]
      by_cases h2 : j < i
      · rw [if_pos h2, if_pos (by omega)]
      · rw [if_neg h2, if_neg (by omega)]
  · rw [mset_place _ _ _ hk]
    simp only [nlw, fl, hk, if_false]
    by_cases h : a + 1 + 11 * i ≤ k ∧ k < a + 1 + 11 * i + 11
    · rw [if_pos h, if_pos (by omega)]
    · rw [if_neg h]
      by_cases h2 : a < k ∧ k < a + 1 + 11 * i
      · rw [if_pos h2, if_pos (by omega)]
      · rw [if_neg h2, if_neg (by omega)]
theorem nlw_end {a : Nat} (ha : kd a = 1000 * 5 + 12) {σ : Mem} : nlw a 12 σ = fl a (a + 133) σ := by
  funext k
  by_cases hk : k = a
  · subst hk
    simp only [nlw, fl, if_true]
    rw [if_pos (by omega)]
    funext j
    have hm : m0l k = (List.range 12).map (fun i => ((k + 1 + 11 * i + 1 : Nat) : Int)) := by
      unfold m0l
      rw [if_neg (show ¬ kd k < 8 by omega), if_pos ha]
    unfold M0 rowOf
    rw [hm, List.getD_eq_getElem?_getD, List.getElem?_map]
    by_cases hj : j < 12
    · rw [if_pos hj, List.getElem?_range hj]; rfl
    · rw [if_neg hj, List.getElem?_eq_none (by simp; omega)]; rfl
  · simp only [nlw, fl, hk, if_false]
    by_cases h : a < k ∧ k < a + 1 + 11 * 12
    · rw [if_pos h, if_pos (by omega)]
    · rw [if_neg h, if_neg (by omega)]
theorem nlw_0 {a : Nat} {σ : Mem} (hz : ∀ k, a ≤ k → ∀ j, σ k j = 0) : σ = nlw a 0 σ := by
  funext k
  by_cases hk : k = a
  · subst hk
    funext j
    simp [nlw, hz k (Nat.le_refl _) j]
  · simp only [nlw, hk, if_false]
    rw [if_neg (by omega)]
theorem w32_small {x : Int} (h1 : -2147483648 ≤ x) (h2 : x < 2147483648) : w32 x = x := Int32.toInt_ofInt_of_le (by omega) (by omega)
set_option maxHeartbeats 4000000 in
set_option maxRecDepth 100000 in
theorem nl_loop {B : Nat} {X : Ctx} (a : Nat) (ha : a = 3 ∨ a = 137) (σ : Mem) (hz : ∀ k, a ≤ k → ∀ j, σ k j = 0) (hX : CxR B (a + 133) a (fl a (a + 133) σ) 133 1152 X) : ∀ (m i : Nat), i + m = 12 → Sig cX6_newLines RX6 2 rgNL B X (a + 1 + 11 * i) (1 + 11 * i) (12 + 95 * i) (nlw a i σ) 8 [(1, iv (i : Int)), (0, rv B a)] [] := by
  intro m
  induction m with
  | zero =>
    intro i hi
    have h12 : i = 12 := by omega
    subst h12
    refine g_iload_n 0 dX6_newLines_8 rfl rfl ?_
    refine g_bipush dX6_newLines_9 (by decide) ?_
    refine g_icmp_ge (tgt := 30) dX6_newLines_11 (by decide) (fun _ => ?_) (fun h => absurd (Int.le_refl _) h)
    refine g_aload_n 1 dX6_newLines_30 rfl rfl ?_
    refine g_eq (nlw_end (NL_k ha).1) ?_
    exact g_aret hX dX6_newLines_31
  | succ m ih =>
    intro i hi
    have hi12 : i < 12 := by omega
    have hL := (NL_k ha).2 i hi12
    refine g_iload_n 0 dX6_newLines_8 rfl rfl ?_
    refine g_bipush dX6_newLines_9 (by decide) ?_
    refine g_icmp_ge (tgt := 30) dX6_newLines_11 (by decide) (fun h => ?_) (fun _ => ?_)
    · exfalso
      rw [w32_small (by omega) (by omega), w32_small (by omega) (by omega)] at h
      omega
    refine g_aload_n 1 dX6_newLines_14 rfl rfl ?_
    refine g_iload_n 0 dX6_newLines_15 rfl rfl ?_
    refine g_new (C := RX1) (T := TX1) (N := 15) dX6_newLines_16 ly1 nw1 rfl cn_X6_95 hL ⟨by show 1 + 11 * i + 1 ≤ 133; omega, by show 12 + 95 * i + 15 ≤ 1152; omega⟩ ?_
    refine g_dup dX6_newLines_19 rfl ?_
    refine g_callN dX6_newLines_20 ng_X6_353 miX1_init (cgX1_init B (a + 1 + 11 * i) hL _ (nlw_zero hz)) ⟨rfl, rfl, by decide, by decide⟩ ⟨by show 1 + 11 * i + 1 + 10 ≤ 133; omega, by show 12 + 95 * i + 15 + 80 ≤ 1152; omega⟩ (Nat.le_of_ble_eq_true rfl) ?_
    refine g_aast1 i dX6_newLines_23 (NL_k ha).1 (by omega) hL (by omega) (w32_small (by omega) (by omega)) hi12 ?_
    refine g_iinc (lv' := [(1, iv ((i : Int) + 1)), (0, rv B a)]) 0 dX6_newLines_24 rfl (by decide) rfl ?_
    refine g_goto (tgt := 8) dX6_newLines_27 (by decide) ?_
    refine g_eq nlw_step ?_
    exact ih (i + 1) (by omega)
set_option maxHeartbeats 4000000 in
set_option maxRecDepth 100000 in
theorem cgNL (B a : Nat) (ha : a = 3 ∨ a = 137) (σ : Mem) (hz : ∀ k, a ≤ k → ∀ j, σ k j = 0) : CtR yX6_newLines cX6_newLines 2 (some (.array (.object RX1))) rgNL B [] a σ (a + 133) a (fl a (a + 133) σ) 133 1152 := by
  refine ctR_intro (own := RX6) (lv := []) (by decide +kernel) rfl (Nat.le_of_ble_eq_true rfl) rfl (fun X hX => ?_)
  refine g_bipush dX6_newLines_0 (by decide) ?_
  refine g_newq1 12 dX6_newLines_2 cn_X6_95 (NL_k ha).1 (by decide) (by decide) (by decide) ⟨by decide, by decide⟩ ?_
  refine g_astore_n (lv' := [(0, rv B a)]) dX6_newLines_5 rfl (by decide) rfl ?_
  refine g_iconst dX6_newLines_6 ?_
  refine g_istore_n (lv' := [(1, iv 0), (0, rv B a)]) dX6_newLines_7 rfl (by decide) rfl ?_
  refine g_eq (nlw_0 hz) ?_
  exact nl_loop a ha σ hz hX 12 0 (by omega)
abbrev rgX3_init : Room := { frames := 1, cells := 1, slots := 16, locals := 20 }
set_option maxHeartbeats 4000000 in
set_option maxRecDepth 100000 in
theorem cgX3_init (B : Nat) (σ : Mem) (hz : ∀ k, 323 ≤ k → ∀ j, σ k j = 0) : CtG yX3_init cX3_init 1 rgX3_init B [rv B 323] 324 σ 325 (fl 323 325 σ) 1 16 := by
  refine ctG_intro (own := RX3) (lv := [(0, rv B 323)]) (by decide +kernel) rfl rfl (Nat.le_of_ble_eq_true rfl) rfl (fun X hI hX => ?_)
  refine g_eq (setrow_zero (k := 323) 2 (hz 323 (Nat.le_refl _))) ?_
  refine g_aload_n 0 dX3_init_0 rfl rfl ?_
  refine g_objinit dX3_init_1 oi_X3 oi_inst oi_code ⟨by decide, by decide⟩ (Nat.le_of_ble_eq_true rfl) ?_
  refine g_aload_n 0 dX3_init_4 rfl rfl ?_
  refine g_bipush dX3_init_5 (by decide) ?_
  refine g_newa_long 16 dX3_init_7 ac_long kd_324 (by decide) (by decide) (by decide) ⟨by decide, by decide⟩ ?_
  refine g_putRF hI dX3_init_9 ly3 ty3 gl_X3_9 kd_323 (by omega) rfl pf3_0 (Nat.le_of_ble_eq_true rfl) ?_
  refine g_eq (σ2 := fl 323 325 σ) (fl_one (by decide) (by decide +kernel) hz (fun k h1 h2 => (by decide +kernel : ∀ k, k < 362 → 323 < k → k < 325 → plain (kd k) = true) k (by omega) h1 h2)) ?_
  exact g_vret hX dX3_init_12
abbrev rgX0_init : Room := { frames := 1, cells := 2, slots := 16, locals := 20 }
set_option maxHeartbeats 4000000 in
set_option maxRecDepth 100000 in
theorem cgX0_init (B : Nat) (σ : Mem) (hz : ∀ k, 325 ≤ k → ∀ j, σ k j = 0) : CtG yX0_init cX0_init 1 rgX0_init B [rv B 325] 326 σ 328 (fl 325 328 σ) 2 16 := by
  refine ctG_intro (own := RX0) (lv := [(0, rv B 325)]) (by decide +kernel) rfl rfl (Nat.le_of_ble_eq_true rfl) rfl (fun X hI hX => ?_)
  refine g_eq (setrow_zero (k := 325) 3 (hz 325 (Nat.le_refl _))) ?_
  refine g_aload_n 0 dX0_init_0 rfl rfl ?_
  refine g_objinit dX0_init_1 oi_X0 oi_inst oi_code ⟨by decide, by decide⟩ (Nat.le_of_ble_eq_true rfl) ?_
  refine g_aload_n 0 dX0_init_4 rfl rfl ?_
  refine g_bipush dX0_init_5 (by decide) ?_
  refine g_newa_int 8 dX0_init_7 ac_int kd_326 (by decide) (by decide) (by decide) ⟨by decide, by decide⟩ ?_
  refine g_putRF hI dX0_init_9 ly0 ty0 gl_X0_9 kd_325 (by omega) rfl pf0_0 (Nat.le_of_ble_eq_true rfl) ?_
  refine g_aload_n 0 dX0_init_12 rfl rfl ?_
  refine g_bipush dX0_init_13 (by decide) ?_
  refine g_newa_int 8 dX0_init_15 ac_int kd_327 (by decide) (by decide) (by decide) ⟨by decide, by decide⟩ ?_
  refine g_putRF hI dX0_init_17 ly0 ty0 gl_X0_15 kd_325 (by omega) rfl pf0_1 (Nat.le_of_ble_eq_true rfl) ?_
  refine g_eq (σ2 := fl 325 328 σ) (fl_one (by decide) (by decide +kernel) hz (fun k h1 h2 => (by decide +kernel : ∀ k, k < 362 → 325 < k → k < 328 → plain (kd k) = true) k (by omega) h1 h2)) ?_
  exact g_vret hX dX0_init_20
abbrev rgX7_init : Room := { frames := 1, cells := 32, slots := 1804, locals := 20 }
set_option maxHeartbeats 4000000 in
set_option maxRecDepth 100000 in
theorem cgX7_init (B : Nat) (σ : Mem) (hz : ∀ k, 328 ≤ k → ∀ j, σ k j = 0) : CtG yX7_init cX7_init 1 rgX7_init B [rv B 328] 329 σ 361 (fl 328 361 σ) 32 1804 := by
  refine ctG_intro (own := RX7) (lv := [(0, rv B 328)]) (by decide +kernel) rfl rfl (Nat.le_of_ble_eq_true rfl) rfl (fun X hI hX => ?_)
  refine g_eq (setrow_zero (k := 328) 50 (hz 328 (Nat.le_refl _))) ?_
  refine g_aload_n 0 dX7_init_0 rfl rfl ?_
  refine g_objinit dX7_init_1 oi_X7 oi_inst oi_code ⟨by decide, by decide⟩ (Nat.le_of_ble_eq_true rfl) ?_
  refine g_aload_n 0 dX7_init_4 rfl rfl ?_
  refine g_bipush dX7_init_5 (by decide) ?_
  refine g_newa_int 12 dX7_init_7 ac_int kd_329 (by decide) (by decide) (by decide) ⟨by decide, by decide⟩ ?_
  refine g_putRF hI dX7_init_9 ly7 ty7 gl_X7_9 kd_328 (by omega) rfl pf7_0 (Nat.le_of_ble_eq_true rfl) ?_
  refine g_aload_n 0 dX7_init_12 rfl rfl ?_
  refine g_bipush dX7_init_13 (by decide) ?_
  refine g_newa_int 12 dX7_init_15 ac_int kd_330 (by decide) (by decide) (by decide) ⟨by decide, by decide⟩ ?_
  refine g_putRF hI dX7_init_17 ly7 ty7 gl_X7_13 kd_328 (by omega) rfl pf7_1 (Nat.le_of_ble_eq_true rfl) ?_
  refine g_aload_n 0 dX7_init_20 rfl rfl ?_
  refine g_bipush dX7_init_21 (by decide) ?_
  refine g_newa_int 96 dX7_init_23 ac_int kd_331 (by decide) (by decide) (by decide) ⟨by decide, by decide⟩ ?_
  refine g_putRF hI dX7_init_25 ly7 ty7 gl_X7_16 kd_328 (by omega) rfl pf7_2 (Nat.le_of_ble_eq_true rfl) ?_
  refine g_aload_n 0 dX7_init_28 rfl rfl ?_
  refine g_bipush dX7_init_29 (by decide) ?_
  refine g_newa_int 96 dX7_init_31 ac_int kd_332 (by decide) (by decide) (by decide) ⟨by decide, by decide⟩ ?_
  refine g_putRF hI dX7_init_33 ly7 ty7 gl_X7_19 kd_328 (by omega) rfl pf7_3 (Nat.le_of_ble_eq_true rfl) ?_
  refine g_aload_n 0 dX7_init_36 rfl rfl ?_
  refine g_bipush dX7_init_37 (by decide) ?_
  refine g_newa_long 96 dX7_init_39 ac_long kd_333 (by decide) (by decide) (by decide) ⟨by decide, by decide⟩ ?_
  refine g_putRF hI dX7_init_41 ly7 ty7 gl_X7_22 kd_328 (by omega) rfl pf7_4 (Nat.le_of_ble_eq_true rfl) ?_
  refine g_aload_n 0 dX7_init_44 rfl rfl ?_
  refine g_bipush dX7_init_45 (by decide) ?_
  refine g_newa_long 96 dX7_init_47 ac_long kd_334 (by decide) (by decide) (by decide) ⟨by decide, by decide⟩ ?_
  refine g_putRF hI dX7_init_49 ly7 ty7 gl_X7_26 kd_328 (by omega) rfl pf7_5 (Nat.le_of_ble_eq_true rfl) ?_
  refine g_aload_n 0 dX7_init_52 rfl rfl ?_
  refine g_bipush dX7_init_53 (by decide) ?_
  refine g_newa_int 12 dX7_init_55 ac_int kd_335 (by decide) (by decide) (by decide) ⟨by decide, by decide⟩ ?_
  refine g_putRF hI dX7_init_57 ly7 ty7 gl_X7_29 kd_328 (by omega) rfl pf7_6 (Nat.le_of_ble_eq_true rfl) ?_
  refine g_aload_n 0 dX7_init_60 rfl rfl ?_
  refine g_bipush dX7_init_61 (by decide) ?_
  refine g_newa_int 12 dX7_init_63 ac_int kd_336 (by decide) (by decide) (by decide) ⟨by decide, by decide⟩ ?_
  refine g_putRF hI dX7_init_65 ly7 ty7 gl_X7_32 kd_328 (by omega) rfl pf7_7 (Nat.le_of_ble_eq_true rfl) ?_
  refine g_aload_n 0 dX7_init_68 rfl rfl ?_
  refine g_bipush dX7_init_69 (by decide) ?_
  refine g_newa_boolean 12 dX7_init_71 ac_boolean kd_337 (by decide) (by decide) (by decide) ⟨by decide, by decide⟩ ?_
  refine g_putRF hI dX7_init_73 ly7 ty7 gl_X7_35 kd_328 (by omega) rfl pf7_8 (Nat.le_of_ble_eq_true rfl) ?_
  refine g_aload_n 0 dX7_init_76 rfl rfl ?_
  refine g_bipush dX7_init_77 (by decide) ?_
  refine g_putI dX7_init_79 ly7 ty7 gl_X7_39 kd_328 (by omega) rfl po7_10 (Nat.le_of_ble_eq_true rfl) ?_
  refine g_aload_n 0 dX7_init_82 rfl rfl ?_
  refine g_bipush dX7_init_83 (by decide) ?_
  refine g_newa_int 10 dX7_init_85 ac_int kd_338 (by decide) (by decide) (by decide) ⟨by decide, by decide⟩ ?_
  refine g_putRF hI dX7_init_87 ly7 ty7 gl_X7_43 kd_328 (by omega) rfl pf7_14 (Nat.le_of_ble_eq_true rfl) ?_
  refine g_aload_n 0 dX7_init_90 rfl rfl ?_
  refine g_bipush dX7_init_91 (by decide) ?_
  refine g_newa_boolean 10 dX7_init_93 ac_boolean kd_339 (by decide) (by decide) (by decide) ⟨by decide, by decide⟩ ?_
  refine g_putRF hI dX7_init_95 ly7 ty7 gl_X7_46 kd_328 (by omega) rfl pf7_15 (Nat.le_of_ble_eq_true rfl) ?_
  refine g_aload_n 0 dX7_init_98 rfl rfl ?_
  refine g_sipush dX7_init_99 (by decide) ?_
  refine g_newa_byte 400 dX7_init_102 ac_byte kd_340 (by decide) (by decide) (by decide) ⟨by decide, by decide⟩ ?_
  refine g_putRF hI dX7_init_104 ly7 ty7 gl_X7_49 kd_328 (by omega) rfl pf7_16 (Nat.le_of_ble_eq_true rfl) ?_
  refine g_aload_n 0 dX7_init_107 rfl rfl ?_
  refine g_bipush dX7_init_108 (by decide) ?_
  refine g_newa_long 32 dX7_init_110 ac_long kd_341 (by decide) (by decide) (by decide) ⟨by decide, by decide⟩ ?_
  refine g_putRF hI dX7_init_112 ly7 ty7 gl_X7_53 kd_328 (by omega) rfl pf7_18 (Nat.le_of_ble_eq_true rfl) ?_
  refine g_aload_n 0 dX7_init_115 rfl rfl ?_
  refine g_bipush dX7_init_116 (by decide) ?_
  refine g_newa_int 12 dX7_init_118 ac_int kd_342 (by decide) (by decide) (by decide) ⟨by decide, by decide⟩ ?_
  refine g_putRF hI dX7_init_120 ly7 ty7 gl_X7_56 kd_328 (by omega) rfl pf7_21 (Nat.le_of_ble_eq_true rfl) ?_
  refine g_aload_n 0 dX7_init_123 rfl rfl ?_
  refine g_bipush dX7_init_124 (by decide) ?_
  refine g_newa_int 12 dX7_init_126 ac_int kd_343 (by decide) (by decide) (by decide) ⟨by decide, by decide⟩ ?_
  refine g_putRF hI dX7_init_128 ly7 ty7 gl_X7_59 kd_328 (by omega) rfl pf7_22 (Nat.le_of_ble_eq_true rfl) ?_
  refine g_aload_n 0 dX7_init_131 rfl rfl ?_
  refine g_bipush dX7_init_132 (by decide) ?_
  refine g_newa_int 96 dX7_init_134 ac_int kd_344 (by decide) (by decide) (by decide) ⟨by decide, by decide⟩ ?_
  refine g_putRF hI dX7_init_136 ly7 ty7 gl_X7_62 kd_328 (by omega) rfl pf7_23 (Nat.le_of_ble_eq_true rfl) ?_
  refine g_aload_n 0 dX7_init_139 rfl rfl ?_
  refine g_bipush dX7_init_140 (by decide) ?_
  refine g_newa_int 96 dX7_init_142 ac_int kd_345 (by decide) (by decide) (by decide) ⟨by decide, by decide⟩ ?_
  refine g_putRF hI dX7_init_144 ly7 ty7 gl_X7_65 kd_328 (by omega) rfl pf7_24 (Nat.le_of_ble_eq_true rfl) ?_
  refine g_aload_n 0 dX7_init_147 rfl rfl ?_
  refine g_bipush dX7_init_148 (by decide) ?_
  refine g_newa_long 10 dX7_init_150 ac_long kd_346 (by decide) (by decide) (by decide) ⟨by decide, by decide⟩ ?_
  refine g_putRF hI dX7_init_152 ly7 ty7 gl_X7_68 kd_328 (by omega) rfl pf7_29 (Nat.le_of_ble_eq_true rfl) ?_
  refine g_aload_n 0 dX7_init_155 rfl rfl ?_
  refine g_bipush dX7_init_156 (by decide) ?_
  refine g_newa_long 10 dX7_init_158 ac_long kd_347 (by decide) (by decide) (by decide) ⟨by decide, by decide⟩ ?_
  refine g_putRF hI dX7_init_160 ly7 ty7 gl_X7_71 kd_328 (by omega) rfl pf7_30 (Nat.le_of_ble_eq_true rfl) ?_
  refine g_aload_n 0 dX7_init_163 rfl rfl ?_
  refine g_bipush dX7_init_164 (by decide) ?_
  refine g_newa_long 96 dX7_init_166 ac_long kd_348 (by decide) (by decide) (by decide) ⟨by decide, by decide⟩ ?_
  refine g_putRF hI dX7_init_168 ly7 ty7 gl_X7_74 kd_328 (by omega) rfl pf7_31 (Nat.le_of_ble_eq_true rfl) ?_
  refine g_aload_n 0 dX7_init_171 rfl rfl ?_
  refine g_bipush dX7_init_172 (by decide) ?_
  refine g_newa_boolean 96 dX7_init_174 ac_boolean kd_349 (by decide) (by decide) (by decide) ⟨by decide, by decide⟩ ?_
  refine g_putRF hI dX7_init_176 ly7 ty7 gl_X7_77 kd_328 (by omega) rfl pf7_32 (Nat.le_of_ble_eq_true rfl) ?_
  refine g_aload_n 0 dX7_init_179 rfl rfl ?_
  refine g_bipush dX7_init_180 (by decide) ?_
  refine g_newa_int 10 dX7_init_182 ac_int kd_350 (by decide) (by decide) (by decide) ⟨by decide, by decide⟩ ?_
  refine g_putRF hI dX7_init_184 ly7 ty7 gl_X7_80 kd_328 (by omega) rfl pf7_33 (Nat.le_of_ble_eq_true rfl) ?_
  refine g_aload_n 0 dX7_init_187 rfl rfl ?_
  refine g_bipush dX7_init_188 (by decide) ?_
  refine g_newa_int 120 dX7_init_190 ac_int kd_351 (by decide) (by decide) (by decide) ⟨by decide, by decide⟩ ?_
  refine g_putRF hI dX7_init_192 ly7 ty7 gl_X7_83 kd_328 (by omega) rfl pf7_34 (Nat.le_of_ble_eq_true rfl) ?_
  refine g_aload_n 0 dX7_init_195 rfl rfl ?_
  refine g_bipush dX7_init_196 (by decide) ?_
  refine g_newa_int 10 dX7_init_198 ac_int kd_352 (by decide) (by decide) (by decide) ⟨by decide, by decide⟩ ?_
  refine g_putRF hI dX7_init_200 ly7 ty7 gl_X7_86 kd_328 (by omega) rfl pf7_35 (Nat.le_of_ble_eq_true rfl) ?_
  refine g_aload_n 0 dX7_init_203 rfl rfl ?_
  refine g_iconst dX7_init_204 ?_
  refine g_putI dX7_init_205 ly7 ty7 gl_X7_89 kd_328 (by omega) rfl po7_37 (Nat.le_of_ble_eq_true rfl) ?_
  refine g_aload_n 0 dX7_init_208 rfl rfl ?_
  refine g_bipush dX7_init_209 (by decide) ?_
  refine g_newa_boolean 12 dX7_init_211 ac_boolean kd_353 (by decide) (by decide) (by decide) ⟨by decide, by decide⟩ ?_
  refine g_putRF hI dX7_init_213 ly7 ty7 gl_X7_92 kd_328 (by omega) rfl pf7_38 (Nat.le_of_ble_eq_true rfl) ?_
  refine g_aload_n 0 dX7_init_216 rfl rfl ?_
  refine g_bipush dX7_init_217 (by decide) ?_
  refine g_newa_int 10 dX7_init_219 ac_int kd_354 (by decide) (by decide) (by decide) ⟨by decide, by decide⟩ ?_
  refine g_putRF hI dX7_init_221 ly7 ty7 gl_X7_95 kd_328 (by omega) rfl pf7_39 (Nat.le_of_ble_eq_true rfl) ?_
  refine g_aload_n 0 dX7_init_224 rfl rfl ?_
  refine g_bipush dX7_init_225 (by decide) ?_
  refine g_newa_long 10 dX7_init_227 ac_long kd_355 (by decide) (by decide) (by decide) ⟨by decide, by decide⟩ ?_
  refine g_putRF hI dX7_init_229 ly7 ty7 gl_X7_98 kd_328 (by omega) rfl pf7_41 (Nat.le_of_ble_eq_true rfl) ?_
  refine g_aload_n 0 dX7_init_232 rfl rfl ?_
  refine g_bipush dX7_init_233 (by decide) ?_
  refine g_newa_long 96 dX7_init_235 ac_long kd_356 (by decide) (by decide) (by decide) ⟨by decide, by decide⟩ ?_
  refine g_putRF hI dX7_init_237 ly7 ty7 gl_X7_101 kd_328 (by omega) rfl pf7_42 (Nat.le_of_ble_eq_true rfl) ?_
  refine g_aload_n 0 dX7_init_240 rfl rfl ?_
  refine g_bipush dX7_init_241 (by decide) ?_
  refine g_newa_long 96 dX7_init_243 ac_long kd_357 (by decide) (by decide) (by decide) ⟨by decide, by decide⟩ ?_
  refine g_putRF hI dX7_init_245 ly7 ty7 gl_X7_104 kd_328 (by omega) rfl pf7_43 (Nat.le_of_ble_eq_true rfl) ?_
  refine g_aload_n 0 dX7_init_248 rfl rfl ?_
  refine g_bipush dX7_init_249 (by decide) ?_
  refine g_newa_long 96 dX7_init_251 ac_long kd_358 (by decide) (by decide) (by decide) ⟨by decide, by decide⟩ ?_
  refine g_putRF hI dX7_init_253 ly7 ty7 gl_X7_107 kd_328 (by omega) rfl pf7_44 (Nat.le_of_ble_eq_true rfl) ?_
  refine g_aload_n 0 dX7_init_256 rfl rfl ?_
  refine g_bipush dX7_init_257 (by decide) ?_
  refine g_newa_long 10 dX7_init_259 ac_long kd_359 (by decide) (by decide) (by decide) ⟨by decide, by decide⟩ ?_
  refine g_putRF hI dX7_init_261 ly7 ty7 gl_X7_110 kd_328 (by omega) rfl pf7_45 (Nat.le_of_ble_eq_true rfl) ?_
  refine g_aload_n 0 dX7_init_264 rfl rfl ?_
  refine g_bipush dX7_init_265 (by decide) ?_
  refine g_newa_int 10 dX7_init_267 ac_int kd_360 (by decide) (by decide) (by decide) ⟨by decide, by decide⟩ ?_
  refine g_putRF hI dX7_init_269 ly7 ty7 gl_X7_113 kd_328 (by omega) rfl pf7_48 (Nat.le_of_ble_eq_true rfl) ?_
  refine g_eq (σ2 := fl 328 361 σ) (fl_one (by decide) (by decide +kernel) hz (fun k h1 h2 => (by decide +kernel : ∀ k, k < 362 → 328 < k → k < 361 → plain (kd k) = true) k (by omega) h1 h2)) ?_
  exact g_vret hX dX7_init_272
theorem flm {σ τ : Mem} {a b : Nat} {l : List Int} (hab : a < b) (hl : m0l a = l) (hτ : ∀ k, a < k → k < b → τ k = M0 k) (ho : ∀ k, k < a ∨ b ≤ k → τ k = σ k) : setrow τ a l = fl a b σ := by
  funext x
  by_cases hx : x = a
  · subst hx
    simp only [setrow, fl, if_true]
    rw [if_pos (by omega)]
    unfold M0
    rw [hl]
  · simp only [setrow, hx, if_false, fl]
    by_cases h : a ≤ x ∧ x < b
    · rw [if_pos h, hτ x (by omega) h.2]
    · rw [if_neg h, ho x (by omega)]
abbrev rgX5_init : Room := { frames := 3, cells := 134, slots := 1552, locals := 61 }
set_option maxHeartbeats 4000000 in
set_option maxRecDepth 100000 in
theorem cgX5_init (B : Nat) (σ : Mem) (hz : ∀ k, 1 ≤ k → ∀ j, σ k j = 0) : CtG yX5_init cX5_init 1 rgX5_init B [rv B 1] 2 σ 136 (fl 1 136 σ) 134 1552 := by
  refine ctG_intro (own := RX5) (lv := [(0, rv B 1)]) (by decide +kernel) rfl rfl (Nat.le_of_ble_eq_true rfl) rfl (fun X hI hX => ?_)
  refine g_eq (setrow_zero (k := 1) 7 (hz 1 (Nat.le_refl _))) ?_
  refine g_aload_n 0 dX5_init_0 rfl rfl ?_
  refine g_objinit dX5_init_1 oi_X5 oi_inst oi_code ⟨by decide, by decide⟩ (Nat.le_of_ble_eq_true rfl) ?_
  refine g_aload_n 0 dX5_init_4 rfl rfl ?_
  refine g_sipush dX5_init_5 (by decide) ?_
  refine g_newa_int 400 dX5_init_8 ac_int kd_2 (by decide) (by decide) (by decide) ⟨by decide, by decide⟩ ?_
  refine g_putRF hI dX5_init_10 ly5 ty5 gl_X5_9 kd_1 (by omega) rfl pf5_0 (Nat.le_of_ble_eq_true rfl) ?_
  refine g_aload_n 0 dX5_init_13 rfl rfl ?_
  refine g_callR dX5_init_14 ng_X5_15 meNL (cgNL B 3 (by decide) _ (fun k hk j => by simp only [setrow, fl]; rw [if_neg (by omega)]; exact hz k (by omega) j)) ⟨rfl, rfl, by decide, by decide⟩ ⟨by decide, by decide⟩ (Nat.le_of_ble_eq_true rfl) ?_
  refine g_eq (fl_setrow (by omega)) ?_
  refine g_putRN dX5_init_17 ly5 ty5 gl_X5_19 kd_1 (by omega) rfl po5_2 (Nat.le_of_ble_eq_true rfl) ?_
  refine g_eq (σ2 := fl 1 136 σ) (flm (by decide) (by decide +kernel) (fun k h1 h2 => ?_) (fun k h => ?_)) ?_
  · by_cases hh3 : 3 ≤ k ∧ k < 136
    · simp only [fl]; rw [if_pos hh3]
    simp only [fl]; rw [if_neg hh3, M0_plain ((by decide +kernel : ∀ k, k < 362 → 1 < k → k < 136 → ¬ (3 ≤ k ∧ k < 136) → plain (kd k) = true) k (by omega) h1 h2 hh3)]; funext j; exact hz k (by omega) j
  · simp only [fl]; rw [if_neg (by omega)]
  exact g_vret hX dX5_init_20

def snw (i : Nat) (τ : Mem) : Mem := fun k => if k = 270 then (fun j => if j < i then ((283 + 4 * j + 1 : Nat) : Int) else 0) else if 283 ≤ k ∧ k < 283 + 4 * i then M0 k else τ k
theorem snw_step {i : Nat} {τ : Mem} : mset (fl (283 + 4 * i) (283 + 4 * i + 4) (snw i τ)) 270 i ((283 + 4 * i + 1 : Nat) : Int) = snw (i + 1) τ := by
  funext k
  by_cases hk : k = 270
  · subst hk
    funext j
    simp only [mset, if_true, snw, fl]
    rw [if_neg (show ¬ (283 + 4 * i ≤ 270 ∧ 270 < 283 + 4 * i + 4) by omega)]
    by_cases hj : j = i
    · subst hj; simp
    · rw [if_neg hj]
      by_cases h2 : j < i
      · rw [if_pos h2, if_pos (by omega)]
      · rw [if_neg h2, if_neg (by omega)]
  · rw [mset_place _ _ _ hk]
    simp only [snw, fl, hk, if_false]
    by_cases h : 283 + 4 * i ≤ k ∧ k < 283 + 4 * i + 4
    · rw [if_pos h, if_pos (by omega)]
    · rw [if_neg h]
      by_cases h2 : 283 ≤ k ∧ k < 283 + 4 * i
      · rw [if_pos h2, if_pos (by omega)]
      · rw [if_neg h2, if_neg (by omega)]
theorem snw_0 {τ : Mem} (hz : ∀ j, τ 270 j = 0) : τ = snw 0 τ := by
  funext k
  by_cases hk : k = 270
  · subst hk
    funext j
    simp [snw, hz j]
  · simp only [snw, hk, if_false]
    rw [if_neg (by omega)]
/-- the net's own row behind its fields' writing -/
def netl : List Int := [138, 0, 271, 50, 0, 0, 0, 0, 0, 0, 272, 0, 273]
theorem netl_ok : m0l 136 = netl := by decide +kernel
theorem M0_270 : M0 270 = fun j => if j < 10 then ((283 + 4 * j + 1 : Nat) : Int) else 0 := by
  have hm : m0l 270 = (List.range 10).map (fun i => ((283 + 4 * i + 1 : Nat) : Int)) := by
    unfold m0l
    rw [kd_270]
    rfl
  funext j
  unfold M0 rowOf
  rw [hm, List.getD_eq_getElem?_getD, List.getElem?_map]
  by_cases hj : j < 10
  · rw [if_pos hj, List.getElem?_range hj]; rfl
  · rw [if_neg hj, List.getElem?_eq_none (by simp; omega)]; rfl
theorem snw_end {σ : Mem} (hz : ∀ k, 136 ≤ k → ∀ j, σ k j = 0) : snw 10 (setrow (fl 272 283 (fl 137 270 σ)) 136 netl) = fl 136 323 σ := by
  funext k
  by_cases h0 : k = 270
  · subst h0
    simp only [snw, if_true, fl]
    rw [if_pos (by omega), M0_270]
  · simp only [snw, h0, if_false]
    by_cases h1 : 283 ≤ k ∧ k < 283 + 4 * 10
    · rw [if_pos h1]; simp only [fl]; rw [if_pos (by omega)]
    · rw [if_neg h1]
      by_cases h2 : k = 136
      · subst h2
        simp only [setrow, if_true, fl]
        rw [if_pos (by omega)]
        unfold M0
        rw [netl_ok]
      · simp only [setrow, h2, if_false, fl]
        by_cases h3 : 272 ≤ k ∧ k < 283
        · rw [if_pos h3, if_pos (by omega)]
        · rw [if_neg h3]
          by_cases h4 : 137 ≤ k ∧ k < 270
          · rw [if_pos h4, if_pos (by omega)]
          · rw [if_neg h4]
            by_cases h5 : 136 ≤ k ∧ k < 323
            · rw [if_pos h5]
              have h6 : k = 271 := by omega
              subst h6
              rw [M0_plain (by decide +kernel)]
              funext j
              exact hz 271 (by omega) j
            · rw [if_neg h5]
abbrev rgX2_init : Room := { frames := 3, cells := 186, slots := 1747, locals := 61 }
set_option maxHeartbeats 4000000 in
set_option maxRecDepth 100000 in
theorem net_loop {B : Nat} {X : Ctx} (σ : Mem) (hz : ∀ k, 136 ≤ k → ∀ j, σ k j = 0) (hX : CxG B 323 (fl 136 323 σ) 186 1747 X) : ∀ (m i : Nat), i + m = 10 → Sig cX2_init RX2 2 rgX2_init B X (283 + 4 * i) (146 + 4 * i) (1267 + 48 * i) (snw i (setrow (fl 272 283 (fl 137 270 σ)) 136 netl)) 47 [(1, iv (i : Int)), (0, rv B 136)] [] := by
  intro m
  induction m with
  | zero =>
    intro i hi
    have h12 : i = 10 := by omega
    subst h12
    refine g_iload_n 0 dX2_init_47 rfl rfl ?_
    refine g_bipush dX2_init_48 (by decide) ?_
    refine g_icmp_ge (tgt := 72) dX2_init_50 (by decide) (fun _ => ?_) (fun h => absurd (Int.le_refl _) h)
    refine g_eq (snw_end hz) ?_
    exact g_vret hX dX2_init_72
  | succ m ih =>
    intro i hi
    have hi12 : i < 10 := by omega
    have hL : kd (283 + 4 * i) = 4 := kdStop hi12
    refine g_iload_n 0 dX2_init_47 rfl rfl ?_
    refine g_bipush dX2_init_48 (by decide) ?_
    refine g_icmp_ge (tgt := 72) dX2_init_50 (by decide) (fun h => ?_) (fun _ => ?_)
    · exfalso
      rw [w32_small (by omega) (by omega), w32_small (by omega) (by omega)] at h
      omega
    refine g_aload_n 1 dX2_init_53 rfl rfl ?_
    refine g_getr (a := 270) dX2_init_54 ly2 gl_X2_21 kd_136 (by omega) rfl (by simp only [snw, setrow, if_true]; rw [if_neg (by decide), if_neg (by omega)]; rfl) ?_
    refine g_iload_n 0 dX2_init_57 rfl rfl ?_
    refine g_new (C := RX4) (T := TX4) (N := 12) dX2_init_58 ly4 nw4 rfl cn_X2_19 hL ⟨by show 146 + 4 * i + 1 ≤ 186; omega, by show 1267 + 48 * i + 12 ≤ 1747; omega⟩ ?_
    refine g_dup dX2_init_61 rfl ?_
    refine g_callN dX2_init_62 ng_X2_40 miX4_init (cgX4_init B (283 + 4 * i) hL _ (fun k hk j => by simp only [snw, setrow, fl]; rw [if_neg (by omega), if_neg (by omega), if_neg (by omega), if_neg (by omega), if_neg (by omega)]; exact hz k (by omega) j)) ⟨rfl, rfl, by decide, by decide⟩ ⟨by show 146 + 4 * i + 1 + 3 ≤ 186; omega, by show 1267 + 48 * i + 12 + 36 ≤ 1747; omega⟩ (Nat.le_of_ble_eq_true rfl) ?_
    refine g_aast4 i dX2_init_65 kd_270 (by omega) hL (by omega) (w32_small (by omega) (by omega)) hi12 ?_
    refine g_iinc (lv' := [(1, iv ((i : Int) + 1)), (0, rv B 136)]) 0 dX2_init_66 rfl (by decide) rfl ?_
    refine g_goto (tgt := 47) dX2_init_69 (by decide) ?_
    refine g_eq snw_step ?_
    exact ih (i + 1) (by omega)
set_option maxHeartbeats 4000000 in
set_option maxRecDepth 100000 in
theorem cgX2_init (B : Nat) (σ : Mem) (hz : ∀ k, 136 ≤ k → ∀ j, σ k j = 0) : CtG yX2_init cX2_init 2 rgX2_init B [rv B 136] 137 σ 323 (fl 136 323 σ) 186 1747 := by
  refine ctG_intro (own := RX2) (lv := [(0, rv B 136)]) (by decide +kernel) rfl rfl (Nat.le_of_ble_eq_true rfl) rfl (fun X hI hX => ?_)
  refine g_eq (setrow_zero (k := 136) 13 (hz 136 (Nat.le_refl _))) ?_
  refine g_aload_n 0 dX2_init_0 rfl rfl ?_
  refine g_objinit dX2_init_1 oi_X2 oi_inst oi_code ⟨by decide, by decide⟩ (Nat.le_of_ble_eq_true rfl) ?_
  refine g_aload_n 0 dX2_init_4 rfl rfl ?_
  refine g_callR dX2_init_5 ng_X2_9 meNL (cgNL B 137 (by decide) _ (fun k hk j => by simp only [setrow]; rw [if_neg (by omega)]; exact hz k (by omega) j)) ⟨rfl, rfl, by decide, by decide⟩ ⟨by decide, by decide⟩ (Nat.le_of_ble_eq_true rfl) ?_
  refine g_eq (fl_setrow (by omega)) ?_
  refine g_putRN dX2_init_8 ly2 ty2 gl_X2_13 kd_136 (by omega) rfl po2_0 (Nat.le_of_ble_eq_true rfl) ?_
  refine g_aload_n 0 dX2_init_11 rfl rfl ?_
  refine g_bipush dX2_init_12 (by decide) ?_
  refine g_newq4 10 dX2_init_14 cn_X2_19 kd_270 (by decide) (by decide) (by decide) ⟨by decide, by decide⟩ ?_
  refine g_putRF hI dX2_init_17 ly2 ty2 gl_X2_21 kd_136 (by omega) rfl pf2_2 (Nat.le_of_ble_eq_true rfl) ?_
  refine g_aload_n 0 dX2_init_20 rfl rfl ?_
  refine g_bipush dX2_init_21 (by decide) ?_
  refine g_putI dX2_init_23 ly2 ty2 gl_X2_25 kd_136 (by omega) rfl po2_3 (Nat.le_of_ble_eq_true rfl) ?_
  refine g_aload_n 0 dX2_init_26 rfl rfl ?_
  refine g_bipush dX2_init_27 (by decide) ?_
  refine g_newa_int 10 dX2_init_29 ac_int kd_271 (by decide) (by decide) (by decide) ⟨by decide, by decide⟩ ?_
  refine g_putRF hI dX2_init_31 ly2 ty2 gl_X2_29 kd_136 (by omega) rfl pf2_10 (Nat.le_of_ble_eq_true rfl) ?_
  refine g_aload_n 0 dX2_init_34 rfl rfl ?_
  refine g_new (C := RX1) (T := TX1) (N := 15) dX2_init_35 ly1 nw1 rfl cn_X2_33 kd_272 ⟨by decide, by decide⟩ ?_
  refine g_dup dX2_init_38 rfl ?_
  refine g_callN dX2_init_39 ng_X2_35 miX1_init (cgX1_init B 272 kd_272 _ (fun k hk j => by simp only [setrow, fl]; rw [if_neg (by omega), if_neg (by omega)]; exact hz k (by omega) j)) ⟨rfl, rfl, by decide, by decide⟩ ⟨by decide, by decide⟩ (Nat.le_of_ble_eq_true rfl) ?_
  refine g_eq (fl_setrow (by omega)) ?_
  refine g_putRF hI dX2_init_42 ly2 ty2 gl_X2_36 kd_136 (by omega) rfl pf2_12 (Nat.le_of_ble_eq_true rfl) ?_
  refine g_iconst dX2_init_45 ?_
  refine g_istore_n (lv' := [(1, iv 0), (0, rv B 136)]) dX2_init_46 rfl (by decide) rfl ?_
  refine g_eq (snw_0 (fun j => by simp only [setrow, fl]; rw [if_neg (by decide), if_neg (by omega), if_neg (by omega)]; exact hz 270 (by omega) j)) ?_
  exact net_loop σ hz hX 10 0 (by omega)
abbrev rgX6_init : Room := { frames := 4, cells := 327, slots := 3356, locals := 82 }
set_option maxHeartbeats 4000000 in
set_option maxRecDepth 100000 in
theorem cgX6_init (B : Nat) (σ : Mem) (hz : ∀ k, 0 ≤ k → ∀ j, σ k j = 0) : CtG yX6_init cX6_init 1 rgX6_init B [rv B 0] 1 σ 328 (fl 0 328 σ) 327 3356 := by
  refine ctG_intro (own := RX6) (lv := [(0, rv B 0)]) (by decide +kernel) rfl rfl (Nat.le_of_ble_eq_true rfl) rfl (fun X hI hX => ?_)
  refine g_eq (setrow_zero (k := 0) 4 (hz 0 (Nat.le_refl _))) ?_
  refine g_aload_n 0 dX6_init_0 rfl rfl ?_
  refine g_objinit dX6_init_1 oi_X6 oi_inst oi_code ⟨by decide, by decide⟩ (Nat.le_of_ble_eq_true rfl) ?_
  refine g_aload_n 0 dX6_init_4 rfl rfl ?_
  refine g_new (C := RX5) (T := TX5) (N := 7) dX6_init_5 ly5 nw5 rfl cn_X6_7 kd_1 ⟨by decide, by decide⟩ ?_
  refine g_dup dX6_init_8 rfl ?_
  refine g_callN dX6_init_9 ng_X6_9 miX5_init (cgX5_init B  _ (fun k hk j => by simp only [setrow, fl]; rw [if_neg (by omega)]; exact hz k (by omega) j)) ⟨rfl, rfl, by decide, by decide⟩ ⟨by decide, by decide⟩ (Nat.le_of_ble_eq_true rfl) ?_
  refine g_eq (fl_setrow (by omega)) ?_
  refine g_putRF hI dX6_init_12 ly6 ty6 gl_X6_10 kd_0 (by omega) rfl pf6_0 (Nat.le_of_ble_eq_true rfl) ?_
  refine g_aload_n 0 dX6_init_15 rfl rfl ?_
  refine g_new (C := RX2) (T := TX2) (N := 13) dX6_init_16 ly2 nw2 rfl cn_X6_16 kd_136 ⟨by decide, by decide⟩ ?_
  refine g_dup dX6_init_19 rfl ?_
  refine g_callI dX6_init_20 li_X6_18 miX2_init (cgX2_init B  _ (fun k hk j => by simp only [setrow, fl]; rw [if_neg (by omega), if_neg (by omega)]; exact hz k (by omega) j)) ⟨rfl, rfl, by decide, by decide⟩ ⟨by decide, by decide⟩ (Nat.le_of_ble_eq_true rfl) ?_
  refine g_eq (fl_setrow (by omega)) ?_
  refine g_putRF hI dX6_init_23 ly6 ty6 gl_X6_19 kd_0 (by omega) rfl pf6_1 (Nat.le_of_ble_eq_true rfl) ?_
  refine g_aload_n 0 dX6_init_26 rfl rfl ?_
  refine g_new (C := RX3) (T := TX3) (N := 2) dX6_init_27 ly3 nw3 rfl cn_X6_23 kd_323 ⟨by decide, by decide⟩ ?_
  refine g_dup dX6_init_30 rfl ?_
  refine g_callN dX6_init_31 ng_X6_25 miX3_init (cgX3_init B  _ (fun k hk j => by simp only [setrow, fl]; rw [if_neg (by omega), if_neg (by omega), if_neg (by omega)]; exact hz k (by omega) j)) ⟨rfl, rfl, by decide, by decide⟩ ⟨by decide, by decide⟩ (Nat.le_of_ble_eq_true rfl) ?_
  refine g_eq (fl_setrow (by omega)) ?_
  refine g_putRF hI dX6_init_34 ly6 ty6 gl_X6_26 kd_0 (by omega) rfl pf6_2 (Nat.le_of_ble_eq_true rfl) ?_
  refine g_aload_n 0 dX6_init_37 rfl rfl ?_
  refine g_new (C := RX0) (T := TX0) (N := 3) dX6_init_38 ly0 nw0 rfl cn_X6_30 kd_325 ⟨by decide, by decide⟩ ?_
  refine g_dup dX6_init_41 rfl ?_
  refine g_callN dX6_init_42 ng_X6_32 miX0_init (cgX0_init B  _ (fun k hk j => by simp only [setrow, fl]; rw [if_neg (by omega), if_neg (by omega), if_neg (by omega), if_neg (by omega)]; exact hz k (by omega) j)) ⟨rfl, rfl, by decide, by decide⟩ ⟨by decide, by decide⟩ (Nat.le_of_ble_eq_true rfl) ?_
  refine g_eq (fl_setrow (by omega)) ?_
  refine g_putRF hI dX6_init_45 ly6 ty6 gl_X6_33 kd_0 (by omega) rfl pf6_3 (Nat.le_of_ble_eq_true rfl) ?_
  refine g_eq (σ2 := fl 0 328 σ) (flm (by decide) (by decide +kernel) (fun k h1 h2 => ?_) (fun k h => ?_)) ?_
  · by_cases hh325 : 325 ≤ k ∧ k < 328
    · simp only [fl]; rw [if_pos hh325]
    by_cases hh323 : 323 ≤ k ∧ k < 325
    · simp only [fl]; rw [if_neg hh325, if_pos hh323]
    by_cases hh136 : 136 ≤ k ∧ k < 323
    · simp only [fl]; rw [if_neg hh325, if_neg hh323, if_pos hh136]
    by_cases hh1 : 1 ≤ k ∧ k < 136
    · simp only [fl]; rw [if_neg hh325, if_neg hh323, if_neg hh136, if_pos hh1]
    exfalso; omega
  · simp only [fl]; rw [if_neg (by omega), if_neg (by omega), if_neg (by omega), if_neg (by omega)]
  exact g_vret hX dX6_init_48
