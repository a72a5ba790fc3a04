abbrev rmX7_changes : Room := { frames := 9, cells := 0, slots := 0, locals := 204 }
abbrev SX7_changes (B : Nat) (X : Ctx) := Sim cX7_changes RX7 4 rmX7_changes B X
set_option maxHeartbeats 4000000 in
set_option maxRecDepth 100000 in
theorem fX7_changes_L13_s {B fu : Nat} {X : Ctx} (hX : CxI .int B X) (k46 : Int → Mem → PR) (hk46 : ∀ (x3 : Int) (s7 : Mem), SX7_changes B X (k46 x3 s7) s7 46 [(1, jv x3)] []) : ∀ (n : Nat) (x1 : Int) (x2 : Int) (s6 : Mem), SX7_changes B X (fX7_changes_L13 fu k46 n x1 x2 s6) s6 13 [(0, rv B 328), (1, jv x1), (3, iv x2)] [] := by
  intro n
  induction n with
  | zero => intro _ _ _; exact s_none
  | succ n ih =>
    intro x1 x2 s3
    rw [fX7_changes_L13]
    refine s_iload_n 2 dX7_changes_13 rfl rfl ?_
    refine s_bipush dX7_changes_14 (by decide) ?_
    refine s_icmp_ge (tgt := 46) dX7_changes_16 (by decide) ?_ ?_
    · exact s_sub [1] rfl (hk46 x1 s3)
    · refine s_lload_n 1 dX7_changes_19 rfl rfl ?_
      refine s_iload_n 2 dX7_changes_20 rfl rfl ?_
      refine s_aload_n 0 dX7_changes_21 rfl rfl ?_
      refine s_geti dX7_changes_22 ly7 fl_X7_197 kd_328 rfl ?_
      refine s_jn (fun (j1 : Int → Mem → PR) => ∀ (x4 : Int) (s5 : Mem), SX7_changes B X (j1 x4 s5) s5 38 [(0, rv B 328), (3, iv x2)] [jv x4, jv x1]) ?_ (fun j1 hj1 => ?_)
      · intro x4 s4
        refine s_ladd dX7_changes_38 ?_
        refine s_ltl (fun x5 => ?_)
        refine s_lstore_n (lv' := [(1, jv x5), (0, rv B 328), (3, iv x2)]) dX7_changes_39 rfl (by decide) rfl ?_
        refine s_iinc (lv' := [(3, iv (x2 + 1)), (1, jv x5), (0, rv B 328)]) 2 dX7_changes_40 rfl (by decide) rfl ?_
        refine s_goto (tgt := 13) dX7_changes_43 (by decide) ?_
        exact s_sub [2, 1, 0] rfl (ih x5 (x2 + 1) s4)
      · refine s_icmp_ne (tgt := 32) dX7_changes_25 (by decide) ?_ ?_
        · refine s_aload_n 0 dX7_changes_32 rfl rfl ?_
          refine s_getr (n := 30) (k' := 359) dX7_changes_33 ly7 fl_X7_110 kd_328 rfl rfl rfl ?_
          refine s_iload_n 2 dX7_changes_36 rfl rfl ?_
          refine s_lald 10 dX7_changes_37 kd_359 (by decide) (fun x6 => ?_)
          exact s_sub [0, 2] rfl (hj1 x6 s3)
        · refine s_lconst (x := 0) dX7_changes_28 (by decide) ?_
          refine s_goto (tgt := 38) dX7_changes_29 (by decide) ?_
          exact s_sub [0, 2] rfl (hj1 0 s3)
set_option maxHeartbeats 4000000 in
set_option maxRecDepth 100000 in
theorem ctX7_changes (B fu : Nat) (σ : Mem) : CtI yX7_changes cX7_changes 4 (some .int) rmX7_changes B [rv B 328] σ (fX7_changes fu σ) := by
  refine ctI_intro (own := RX7) (lv := [(0, rv B 328)]) (by decide +kernel) rfl (Nat.le_of_ble_eq_true rfl) rfl (fun X hX => ?_)
  unfold fX7_changes
  refine s_aload_n 0 dX7_changes_0 rfl rfl ?_
  refine s_iconst dX7_changes_1 ?_
  refine s_puti dX7_changes_2 ly7 ty7 fl_X7_116 kd_328 rfl po7_20 ⟨rfl, rfl, by decide⟩ (fun s1 => ?_)
  refine s_aload_n 0 dX7_changes_5 rfl rfl ?_
  refine s_Vv (rest := []) dX7_changes_6 lk_X7_272 meX7_laysLoads (ctX7_laysLoads B fu s1) kd_328 ⟨rfl, by decide⟩ rfl rfl ⟨rfl, rfl, by decide, by decide⟩ (Nat.le_of_ble_eq_true rfl) (fun _ s2 => ?_)
  refine s_lconst (x := 0) dX7_changes_9 (by decide) ?_
  refine s_lstore_n (lv' := [(1, jv 0), (0, rv B 328)]) dX7_changes_10 rfl (by decide) rfl ?_
  refine s_iconst dX7_changes_11 ?_
  refine s_istore_n (lv' := [(3, iv 0), (1, jv 0), (0, rv B 328)]) dX7_changes_12 rfl (by decide) rfl ?_
  refine s_sub [2, 1, 0] (lv' := [(0, rv B 328), (1, jv 0), (3, iv 0)]) rfl ?_
  refine fX7_changes_L13_s hX _ ?_ fu 0 0 s2
  intro x7 s8
  refine s_lload_n 0 dX7_changes_46 rfl rfl ?_
  refine s_l2i dX7_changes_47 ?_
  exact s_iret hX dX7_changes_48
abbrev rmX7_crowd : Room := { frames := 1, cells := 0, slots := 0, locals := 25 }
abbrev SX7_crowd (B : Nat) (X : Ctx) := Sim cX7_crowd RX7 3 rmX7_crowd B X
set_option maxHeartbeats 4000000 in
set_option maxRecDepth 100000 in
theorem ctX7_crowd (B fu : Nat) (a0 : Int) (σ : Mem) : CtI yX7_crowd cX7_crowd 3 (some .int) rmX7_crowd B [rv B 328, iv a0] σ (fX7_crowd fu a0 σ) := by
  refine ctI_intro (own := RX7) (lv := [(0, rv B 328), (1, iv a0)]) (by decide +kernel) rfl (Nat.le_of_ble_eq_true rfl) rfl (fun X hX => ?_)
  unfold fX7_crowd
  refine s_aload_n 0 dX7_crowd_0 rfl rfl ?_
  refine s_iconst dX7_crowd_1 ?_
  refine s_puti dX7_crowd_2 ly7 ty7 fl_X7_116 kd_328 rfl po7_20 ⟨rfl, rfl, by decide⟩ (fun s1 => ?_)
  refine s_iload_n 1 dX7_crowd_5 rfl rfl ?_
  refine s_i2l dX7_crowd_6 ?_
  refine s_lconst (x := 0) dX7_crowd_7 (by decide) ?_
  refine s_ldc2 (x := 9999) dX7_crowd_8 cl_X7_200 (by decide) ?_
  refine s_Si (rest := []) dX7_crowd_11 lk_X7_125 meX7_in (ctX7_in B fu (w32 a0) 0 9999 s1) rfl rfl ⟨rfl, rfl, by decide, by decide⟩ (Nat.le_of_ble_eq_true rfl) (fun x1 s2 => ?_)
  refine s_if_ne (tgt := 19) dX7_crowd_14 (by decide) ?_ ?_
  · refine s_aload_n 0 dX7_crowd_19 rfl rfl ?_
    refine s_geti dX7_crowd_20 ly7 fl_X7_282 kd_328 rfl ?_
    refine s_lti (fun x2 => ?_)
    refine s_istore_n (lv' := [(2, iv x2), (0, rv B 328), (1, iv a0)]) dX7_crowd_23 rfl (by decide) rfl ?_
    refine s_aload_n 1 dX7_crowd_24 rfl rfl ?_
    refine s_iload_n 2 dX7_crowd_25 rfl rfl ?_
    refine s_puti dX7_crowd_26 ly7 ty7 fl_X7_282 kd_328 rfl po7_12 ⟨rfl, rfl, by decide⟩ (fun s3 => ?_)
    refine s_iload_n 0 dX7_crowd_29 rfl rfl ?_
    exact s_iret hX dX7_crowd_30
  · refine s_iconst dX7_crowd_17 ?_
    exact s_iret hX dX7_crowd_18
abbrev rmX7_seats : Room := { frames := 2, cells := 0, slots := 0, locals := 46 }
abbrev SX7_seats (B : Nat) (X : Ctx) := Sim cX7_seats RX7 4 rmX7_seats B X
set_option maxHeartbeats 4000000 in
set_option maxRecDepth 100000 in
theorem ctX7_seats (B fu : Nat) (a0 : Int) (a1 : Int) (σ : Mem) : CtI yX7_seats cX7_seats 4 (some .int) rmX7_seats B [rv B 328, iv a0, iv a1] σ (fX7_seats fu a0 a1 σ) := by
  refine ctI_intro (own := RX7) (lv := [(0, rv B 328), (1, iv a0), (2, iv a1)]) (by decide +kernel) rfl (Nat.le_of_ble_eq_true rfl) rfl (fun X hX => ?_)
  unfold fX7_seats
  refine s_aload_n 0 dX7_seats_0 rfl rfl ?_
  refine s_iconst dX7_seats_1 ?_
  refine s_puti dX7_seats_2 ly7 ty7 fl_X7_116 kd_328 rfl po7_20 ⟨rfl, rfl, by decide⟩ (fun s1 => ?_)
  refine s_aload_n 0 dX7_seats_5 rfl rfl ?_
  refine s_iload_n 1 dX7_seats_6 rfl rfl ?_
  refine s_Vi (rest := []) dX7_seats_7 lk_X7_134 meX7_isLine (ctX7_isLine B fu a0 s1) kd_328 ⟨rfl, by decide⟩ rfl rfl ⟨rfl, rfl, by decide, by decide⟩ (Nat.le_of_ble_eq_true rfl) (fun x1 s2 => ?_)
  refine s_jn (fun (j1 : Mem → PR) => ∀ (s6 : Mem), SX7_seats B X (j1 s6) s6 25 [] []) ?_ (fun j1 hj1 => ?_)
  · intro s3
    refine s_iconst dX7_seats_25 ?_
    exact s_iret hX dX7_seats_26
  · refine s_if_eq (tgt := 25) dX7_seats_10 (by decide) ?_ ?_
    · exact s_sub [] rfl (hj1 s2)
    · refine s_iload_n 2 dX7_seats_13 rfl rfl ?_
      refine s_i2l dX7_seats_14 ?_
      refine s_lconst (x := 1) dX7_seats_15 (by decide) ?_
      refine s_ldc2 (x := 999) dX7_seats_16 cl_X7_285 (by decide) ?_
      refine s_Si (rest := []) dX7_seats_19 lk_X7_125 meX7_in (ctX7_in B fu (w32 a1) 1 999 s2) rfl rfl ⟨rfl, rfl, by decide, by decide⟩ (Nat.le_of_ble_eq_true rfl) (fun x2 s4 => ?_)
      refine s_if_ne (tgt := 27) dX7_seats_22 (by decide) ?_ ?_
      · refine s_aload_n 0 dX7_seats_27 rfl rfl ?_
        refine s_getr (n := 6) (k' := 335) dX7_seats_28 ly7 fl_X7_29 kd_328 rfl rfl rfl ?_
        refine s_iload_n 1 dX7_seats_31 rfl rfl ?_
        refine s_iald 12 dX7_seats_32 kd_335 (by decide) (fun x3 => ?_)
        refine s_istore_n (lv' := [(3, iv x3), (0, rv B 328), (1, iv a0), (2, iv a1)]) dX7_seats_33 rfl (by decide) rfl ?_
        refine s_aload_n 1 dX7_seats_34 rfl rfl ?_
        refine s_getr (n := 6) (k' := 335) dX7_seats_35 ly7 fl_X7_29 kd_328 rfl rfl rfl ?_
        refine s_iload_n 2 dX7_seats_38 rfl rfl ?_
        refine s_iload_n 3 dX7_seats_39 rfl rfl ?_
        refine s_iast 12 dX7_seats_40 kd_335 (by decide) (fun s5 => ?_)
        refine s_iload_n 0 dX7_seats_41 rfl rfl ?_
        exact s_iret hX dX7_seats_42
      · exact s_sub [] rfl (hj1 s4)
abbrev rmX7_settlesOnce : Room := { frames := 9, cells := 0, slots := 0, locals := 204 }
abbrev SX7_settlesOnce (B : Nat) (X : Ctx) := Sim cX7_settlesOnce RX7 6 rmX7_settlesOnce B X
set_option maxHeartbeats 4000000 in
set_option maxRecDepth 100000 in
theorem fX7_settlesOnce_L31_s {B fu : Nat} {X : Ctx} (hX : CxV B X) (c1 : Int) (k140 : Mem → PR) (hk140 : ∀ (s11 : Mem), SX7_settlesOnce B X (k140 s11) s11 140 [(0, rv B 328), (1, iv c1)] []) : ∀ (n : Nat) (x2 : Int) (s10 : Mem), SX7_settlesOnce B X (fX7_settlesOnce_L31 fu c1 k140 n x2 s10) s10 31 [(0, rv B 328), (1, iv c1), (2, iv x2)] [] := by
  intro n
  induction n with
  | zero => intro _ _; exact s_none
  | succ n ih =>
    intro x2 s5
    rw [fX7_settlesOnce_L31]
    refine s_iload_n 2 dX7_settlesOnce_31 rfl rfl ?_
    refine s_aload_n 0 dX7_settlesOnce_32 rfl rfl ?_
    refine s_getr (n := 1) (k' := 330) dX7_settlesOnce_33 ly7 fl_X7_13 kd_328 rfl rfl rfl ?_
    refine s_iload_n 1 dX7_settlesOnce_36 rfl rfl ?_
    refine s_iald 12 dX7_settlesOnce_37 kd_330 (by decide) (fun x3 => ?_)
    refine s_iconst dX7_settlesOnce_38 ?_
    refine s_isub dX7_settlesOnce_39 ?_
    refine s_icmp_ge (tgt := 140) dX7_settlesOnce_40 (by decide) ?_ ?_
    · exact s_sub [0, 1] rfl (hk140 s5)
    · refine s_iload_n 1 dX7_settlesOnce_43 rfl rfl ?_
      refine s_iload_n 2 dX7_settlesOnce_44 rfl rfl ?_
      refine s_Si (rest := []) dX7_settlesOnce_45 lk_X7_165 meX7_at (ctX7_at B fu c1 x2 s5) rfl rfl ⟨rfl, rfl, by decide, by decide⟩ (Nat.le_of_ble_eq_true rfl) (fun x4 s6 => ?_)
      refine s_istore_n (lv' := [(3, iv x4), (0, rv B 328), (1, iv c1), (2, iv x2)]) dX7_settlesOnce_48 rfl (by decide) rfl ?_
      refine s_aload_n 1 dX7_settlesOnce_49 rfl rfl ?_
      refine s_getr (n := 27) (k' := 356) dX7_settlesOnce_50 ly7 fl_X7_101 kd_328 rfl rfl rfl ?_
      refine s_iload_n 0 dX7_settlesOnce_53 rfl rfl ?_
      refine s_lald 96 dX7_settlesOnce_54 kd_356 (by decide) (fun x5 => ?_)
      refine s_aload_n 1 dX7_settlesOnce_55 rfl rfl ?_
      refine s_getr (n := 5) (k' := 334) dX7_settlesOnce_56 ly7 fl_X7_26 kd_328 rfl rfl rfl ?_
      refine s_iload_n 0 dX7_settlesOnce_59 rfl rfl ?_
      refine s_lald 96 dX7_settlesOnce_60 kd_334 (by decide) (fun x6 => ?_)
      refine s_lsub dX7_settlesOnce_61 ?_
      refine s_ltl (fun x7 => ?_)
      refine s_lstore (lv' := [(4, jv x7), (3, iv x4), (0, rv B 328), (1, iv c1), (2, iv x2)]) dX7_settlesOnce_62 (by decide) rfl ?_
      refine s_aload_n 2 dX7_settlesOnce_64 rfl rfl ?_
      refine s_dup dX7_settlesOnce_65 rfl ?_
      refine s_getl dX7_settlesOnce_66 ly7 fl_X7_287 kd_328 rfl ?_
      refine s_lload 0 dX7_settlesOnce_69 rfl ?_
      refine s_abs64 dX7_settlesOnce_71 lk_X7_291 meJ9_abs_067f4 ⟨by decide, by decide⟩ (Nat.le_of_ble_eq_true rfl) ?_
      refine s_ladd dX7_settlesOnce_74 ?_
      refine s_putl dX7_settlesOnce_75 ly7 ty7 fl_X7_287 kd_328 rfl po7_46 ⟨rfl, rfl, by decide⟩ (fun s7 => ?_)
      refine s_aload_n 2 dX7_settlesOnce_78 rfl rfl ?_
      refine s_getr (n := 5) (k' := 334) dX7_settlesOnce_79 ly7 fl_X7_26 kd_328 rfl rfl rfl ?_
      refine s_iload_n 1 dX7_settlesOnce_82 rfl rfl ?_
      refine s_dup2 dX7_settlesOnce_83 rfl rfl ?_
      refine s_lald 96 dX7_settlesOnce_84 kd_334 (by decide) (fun x8 => ?_)
      refine s_lload 0 dX7_settlesOnce_85 rfl ?_
      refine s_aload_n 2 dX7_settlesOnce_87 rfl rfl ?_
      refine s_geti dX7_settlesOnce_88 ly7 fl_X7_192 kd_328 rfl ?_
      refine s_i2l dX7_settlesOnce_91 ?_
      refine s_ldiv dX7_settlesOnce_92 ?_
      refine s_ladd dX7_settlesOnce_93 ?_
      refine s_last 96 dX7_settlesOnce_94 kd_334 (by decide) (fun s8 => ?_)
      refine s_aload_n 2 dX7_settlesOnce_95 rfl rfl ?_
      refine s_getr (n := 4) (k' := 333) dX7_settlesOnce_96 ly7 fl_X7_22 kd_328 rfl rfl rfl ?_
      refine s_iload_n 1 dX7_settlesOnce_99 rfl rfl ?_
      refine s_ldc2 (x := 100000) dX7_settlesOnce_100 cl_X7_297 (by decide) ?_
      refine s_aload_n 2 dX7_settlesOnce_103 rfl rfl ?_
      refine s_geti dX7_settlesOnce_104 ly7 fl_X7_282 kd_328 rfl ?_
      refine s_i2l dX7_settlesOnce_107 ?_
      refine s_aload_n 2 dX7_settlesOnce_108 rfl rfl ?_
      refine s_getr (n := 5) (k' := 334) dX7_settlesOnce_109 ly7 fl_X7_26 kd_328 rfl rfl rfl ?_
      refine s_iload_n 1 dX7_settlesOnce_112 rfl rfl ?_
      refine s_lald 96 dX7_settlesOnce_113 kd_334 (by decide) (fun x9 => ?_)
      refine s_lmul dX7_settlesOnce_114 ?_
      refine s_aload_n 2 dX7_settlesOnce_115 rfl rfl ?_
      refine s_getr (n := 6) (k' := 335) dX7_settlesOnce_116 ly7 fl_X7_29 kd_328 rfl rfl rfl ?_
      refine s_iload_n 3 dX7_settlesOnce_119 rfl rfl ?_
      refine s_iald 12 dX7_settlesOnce_120 kd_335 (by decide) (fun x10 => ?_)
      refine s_aload_n 2 dX7_settlesOnce_121 rfl rfl ?_
      refine s_getr (n := 0) (k' := 329) dX7_settlesOnce_122 ly7 fl_X7_9 kd_328 rfl rfl rfl ?_
      refine s_iload_n 3 dX7_settlesOnce_125 rfl rfl ?_
      refine s_iald 12 dX7_settlesOnce_126 kd_329 (by decide) (fun x11 => ?_)
      refine s_imul dX7_settlesOnce_127 ?_
      refine s_i2l dX7_settlesOnce_128 ?_
      refine s_ldiv dX7_settlesOnce_129 ?_
      refine s_min64 dX7_settlesOnce_130 lk_X7_299 meJ9_min_f86c9 ⟨by decide, by decide⟩ (Nat.le_of_ble_eq_true rfl) ?_
      refine s_last 96 dX7_settlesOnce_133 kd_333 (by decide) (fun s9 => ?_)
      refine s_iinc (lv' := [(2, iv (x2 + 1)), (4, jv x7), (3, iv x4), (0, rv B 328), (1, iv c1)]) 4 dX7_settlesOnce_134 rfl (by decide) rfl ?_
      refine s_goto (tgt := 31) dX7_settlesOnce_137 (by decide) ?_
      exact s_sub [3, 4, 0] rfl (ih (x2 + 1) s9)
set_option maxHeartbeats 4000000 in
set_option maxRecDepth 100000 in
theorem fX7_settlesOnce_L21_s {B fu : Nat} {X : Ctx} (hX : CxV B X) (k146 : Mem → PR) (hk146 : ∀ (s14 : Mem), SX7_settlesOnce B X (k146 s14) s14 146 [] []) : ∀ (n : Nat) (x1 : Int) (s13 : Mem), SX7_settlesOnce B X (fX7_settlesOnce_L21 fu k146 n x1 s13) s13 21 [(0, rv B 328), (1, iv x1)] [] := by
  intro n
  induction n with
  | zero => intro _ _; exact s_none
  | succ n ih =>
    intro x1 s4
    rw [fX7_settlesOnce_L21]
    refine s_iload_n 1 dX7_settlesOnce_21 rfl rfl ?_
    refine s_aload_n 0 dX7_settlesOnce_22 rfl rfl ?_
    refine s_geti dX7_settlesOnce_23 ly7 fl_X7_129 kd_328 rfl ?_
    refine s_icmp_ge (tgt := 146) dX7_settlesOnce_26 (by decide) ?_ ?_
    · exact s_sub [] rfl (hk146 s4)
    · refine s_iconst dX7_settlesOnce_29 ?_
      refine s_istore_n (lv' := [(2, iv 0), (0, rv B 328), (1, iv x1)]) dX7_settlesOnce_30 rfl (by decide) rfl ?_
      refine s_sub [1, 2, 0] (lv' := [(0, rv B 328), (1, iv x1), (2, iv 0)]) rfl ?_
      refine fX7_settlesOnce_L31_s hX x1 _ ?_ fu 0 s4
      intro s12
      refine s_iinc (lv' := [(1, iv (x1 + 1)), (0, rv B 328)]) 1 dX7_settlesOnce_140 rfl (by decide) rfl ?_
      refine s_goto (tgt := 21) dX7_settlesOnce_143 (by decide) ?_
      exact s_sub [1, 0] rfl (ih (x1 + 1) s12)
set_option maxHeartbeats 4000000 in
set_option maxRecDepth 100000 in
theorem ctX7_settlesOnce (B fu : Nat) (σ : Mem) : CtV yX7_settlesOnce cX7_settlesOnce 6 none rmX7_settlesOnce B [rv B 328] σ (fX7_settlesOnce fu σ) := by
  refine ctV_intro (own := RX7) (lv := [(0, rv B 328)]) (by decide +kernel) rfl (Nat.le_of_ble_eq_true rfl) rfl (fun X hX => ?_)
  unfold fX7_settlesOnce
  refine s_aload_n 0 dX7_settlesOnce_0 rfl rfl ?_
  refine s_Vv (rest := []) dX7_settlesOnce_1 lk_X7_272 meX7_laysLoads (ctX7_laysLoads B fu σ) kd_328 ⟨rfl, by decide⟩ rfl rfl ⟨rfl, rfl, by decide, by decide⟩ (Nat.le_of_ble_eq_true rfl) (fun _ s1 => ?_)
  refine s_aload_n 0 dX7_settlesOnce_4 rfl rfl ?_
  refine s_dup dX7_settlesOnce_5 rfl ?_
  refine s_geti dX7_settlesOnce_6 ly7 fl_X7_192 kd_328 rfl ?_
  refine s_iconst dX7_settlesOnce_9 ?_
  refine s_iadd dX7_settlesOnce_10 ?_
  refine s_puti dX7_settlesOnce_11 ly7 ty7 fl_X7_192 kd_328 rfl po7_13 ⟨rfl, rfl, by decide⟩ (fun s2 => ?_)
  refine s_aload_n 0 dX7_settlesOnce_14 rfl rfl ?_
  refine s_lconst (x := 0) dX7_settlesOnce_15 (by decide) ?_
  refine s_putl dX7_settlesOnce_16 ly7 ty7 fl_X7_287 kd_328 rfl po7_46 ⟨rfl, rfl, by decide⟩ (fun s3 => ?_)
  refine s_iconst dX7_settlesOnce_19 ?_
  refine s_istore_n (lv' := [(1, iv 0), (0, rv B 328)]) dX7_settlesOnce_20 rfl (by decide) rfl ?_
  refine s_sub [1, 0] (lv' := [(0, rv B 328), (1, iv 0)]) rfl ?_
  refine fX7_settlesOnce_L21_s hX _ ?_ fu 0 s3
  intro s15
  exact s_vret hX dX7_settlesOnce_146
abbrev rmX7_settles : Room := { frames := 10, cells := 0, slots := 0, locals := 229 }
abbrev SX7_settles (B : Nat) (X : Ctx) := Sim cX7_settles RX7 3 rmX7_settles B X
set_option maxHeartbeats 4000000 in
set_option maxRecDepth 100000 in
theorem fX7_settles_L21_s {B fu : Nat} {X : Ctx} (hX : CxI .int B X) (c1 : Int) (k36 : Mem → PR) (hk36 : ∀ (s6 : Mem), SX7_settles B X (k36 s6) s6 36 [(0, rv B 328)] []) : ∀ (n : Nat) (x2 : Int) (s5 : Mem), SX7_settles B X (fX7_settles_L21 fu c1 k36 n x2 s5) s5 21 [(0, rv B 328), (1, iv c1), (2, iv x2)] [] := by
  intro n
  induction n with
  | zero => intro _ _; exact s_none
  | succ n ih =>
    intro x2 s3
    rw [fX7_settles_L21]
    refine s_iload_n 2 dX7_settles_21 rfl rfl ?_
    refine s_iload_n 1 dX7_settles_22 rfl rfl ?_
    refine s_icmp_ge (tgt := 36) dX7_settles_23 (by decide) ?_ ?_
    · exact s_sub [0] rfl (hk36 s3)
    · refine s_aload_n 0 dX7_settles_26 rfl rfl ?_
      refine s_Vv (rest := []) dX7_settles_27 lk_X7_305 meX7_settlesOnce (ctX7_settlesOnce B fu s3) kd_328 ⟨rfl, by decide⟩ rfl rfl ⟨rfl, rfl, by decide, by decide⟩ (Nat.le_of_ble_eq_true rfl) (fun _ s4 => ?_)
      refine s_iinc (lv' := [(2, iv (x2 + 1)), (0, rv B 328), (1, iv c1)]) 2 dX7_settles_30 rfl (by decide) rfl ?_
      refine s_goto (tgt := 21) dX7_settles_33 (by decide) ?_
      exact s_sub [1, 2, 0] rfl (ih (x2 + 1) s4)
set_option maxHeartbeats 4000000 in
set_option maxRecDepth 100000 in
theorem ctX7_settles (B fu : Nat) (a0 : Int) (σ : Mem) : CtI yX7_settles cX7_settles 3 (some .int) rmX7_settles B [rv B 328, iv a0] σ (fX7_settles fu a0 σ) := by
  refine ctI_intro (own := RX7) (lv := [(0, rv B 328), (1, iv a0)]) (by decide +kernel) rfl (Nat.le_of_ble_eq_true rfl) rfl (fun X hX => ?_)
  unfold fX7_settles
  refine s_aload_n 0 dX7_settles_0 rfl rfl ?_
  refine s_iconst dX7_settles_1 ?_
  refine s_puti dX7_settles_2 ly7 ty7 fl_X7_116 kd_328 rfl po7_20 ⟨rfl, rfl, by decide⟩ (fun s1 => ?_)
  refine s_iload_n 1 dX7_settles_5 rfl rfl ?_
  refine s_i2l dX7_settles_6 ?_
  refine s_lconst (x := 1) dX7_settles_7 (by decide) ?_
  refine s_ldc2 (x := 50) dX7_settles_8 cl_X7_303 (by decide) ?_
  refine s_Si (rest := []) dX7_settles_11 lk_X7_125 meX7_in (ctX7_in B fu (w32 a0) 1 50 s1) rfl rfl ⟨rfl, rfl, by decide, by decide⟩ (Nat.le_of_ble_eq_true rfl) (fun x1 s2 => ?_)
  refine s_if_ne (tgt := 19) dX7_settles_14 (by decide) ?_ ?_
  · refine s_iconst dX7_settles_19 ?_
    refine s_istore_n (lv' := [(2, iv 0), (0, rv B 328), (1, iv a0)]) dX7_settles_20 rfl (by decide) rfl ?_
    refine s_sub [1, 2, 0] (lv' := [(0, rv B 328), (1, iv a0), (2, iv 0)]) rfl ?_
    refine fX7_settles_L21_s hX a0 _ ?_ fu 0 s2
    intro s7
    refine s_aload_n 0 dX7_settles_36 rfl rfl ?_
    refine s_Vv (rest := []) dX7_settles_37 lk_X7_246 meX7_laysCosts (ctX7_laysCosts B fu s7) kd_328 ⟨rfl, by decide⟩ rfl rfl ⟨rfl, rfl, by decide, by decide⟩ (Nat.le_of_ble_eq_true rfl) (fun _ s8 => ?_)
    refine s_aload_n 0 dX7_settles_40 rfl rfl ?_
    refine s_iconst dX7_settles_41 ?_
    refine s_puti dX7_settles_42 ly7 ty7 fl_X7_119 kd_328 rfl po7_19 ⟨rfl, rfl, by decide⟩ (fun s9 => ?_)
    refine s_aload_n 0 dX7_settles_45 rfl rfl ?_
    refine s_aload_n 0 dX7_settles_46 rfl rfl ?_
    refine s_geti dX7_settles_47 ly7 fl_X7_192 kd_328 rfl ?_
    refine s_i2l dX7_settles_50 ?_
    refine s_Vv (rest := []) dX7_settles_51 lk_X7_211 meX7_tell (ctX7_tell B fu (w32 (s9 328 13)) s9) kd_328 ⟨rfl, by decide⟩ rfl rfl ⟨rfl, rfl, by decide, by decide⟩ (Nat.le_of_ble_eq_true rfl) (fun _ s10 => ?_)
    refine s_aload_n 0 dX7_settles_54 rfl rfl ?_
    refine s_aload_n 0 dX7_settles_55 rfl rfl ?_
    refine s_Vl (rest := [rv B 328]) dX7_settles_56 lk_X7_279 meX7_totalNow (ctX7_totalNow B fu s10) kd_328 ⟨rfl, by decide⟩ rfl rfl ⟨rfl, rfl, by decide, by decide⟩ (Nat.le_of_ble_eq_true rfl) (fun x3 s11 => ?_)
    refine s_Vv (rest := []) dX7_settles_59 lk_X7_211 meX7_tell (ctX7_tell B fu x3 s11) kd_328 ⟨rfl, by decide⟩ rfl rfl ⟨rfl, rfl, by decide, by decide⟩ (Nat.le_of_ble_eq_true rfl) (fun _ s12 => ?_)
    refine s_aload_n 0 dX7_settles_62 rfl rfl ?_
    refine s_getl dX7_settles_63 ly7 fl_X7_287 kd_328 rfl ?_
    refine s_l2i dX7_settles_66 ?_
    exact s_iret hX dX7_settles_67
  · refine s_iconst dX7_settles_17 ?_
    exact s_iret hX dX7_settles_18
abbrev rmX7_balances : Room := { frames := 10, cells := 0, slots := 0, locals := 229 }
abbrev SX7_balances (B : Nat) (X : Ctx) := Sim cX7_balances RX7 4 rmX7_balances B X
set_option maxHeartbeats 4000000 in
set_option maxRecDepth 100000 in
theorem fX7_balances_L25_s {B fu : Nat} {X : Ctx} (hX : CxI .int B X) (c1 : Int) (c2 : Int) (k47 : Int → Mem → PR) (hk47 : ∀ (x3 : Int) (s7 : Mem), SX7_balances B X (k47 x3 s7) s7 47 [(0, rv B 328), (3, iv x3)] []) : ∀ (n : Nat) (x2 : Int) (s6 : Mem), SX7_balances B X (fX7_balances_L25 fu c1 c2 k47 n x2 s6) s6 25 [(0, rv B 328), (1, iv c1), (2, iv c2), (3, iv x2)] [] := by
  intro n
  induction n with
  | zero => intro _ _; exact s_none
  | succ n ih =>
    intro x2 s4
    rw [fX7_balances_L25]
    refine s_aload_n 0 dX7_balances_25 rfl rfl ?_
    refine s_Vv (rest := []) dX7_balances_26 lk_X7_305 meX7_settlesOnce (ctX7_settlesOnce B fu s4) kd_328 ⟨rfl, by decide⟩ rfl rfl ⟨rfl, rfl, by decide, by decide⟩ (Nat.le_of_ble_eq_true rfl) (fun _ s5 => ?_)
    refine s_iinc (lv' := [(3, iv (x2 + 1)), (0, rv B 328), (1, iv c1), (2, iv c2)]) 3 dX7_balances_29 rfl (by decide) rfl ?_
    refine s_iload_n 0 dX7_balances_32 rfl rfl ?_
    refine s_iload_n 3 dX7_balances_33 rfl rfl ?_
    refine s_icmp_ge (tgt := 47) dX7_balances_34 (by decide) ?_ ?_
    · exact s_sub [1, 0] rfl (hk47 (x2 + 1) s5)
    · refine s_aload_n 1 dX7_balances_37 rfl rfl ?_
      refine s_getl dX7_balances_38 ly7 fl_X7_287 kd_328 rfl ?_
      refine s_iload_n 2 dX7_balances_41 rfl rfl ?_
      refine s_i2l dX7_balances_42 ?_
      refine s_lif_gt (tgt := 25) dX7_balances_43 dX7_balances_44 (by decide) ?_ ?_
      · exact s_sub [1, 2, 3, 0] rfl (ih (x2 + 1) s5)
      · exact s_sub [1, 0] rfl (hk47 (x2 + 1) s5)
set_option maxHeartbeats 4000000 in
set_option maxRecDepth 100000 in
theorem ctX7_balances (B fu : Nat) (a0 : Int) (a1 : Int) (σ : Mem) : CtI yX7_balances cX7_balances 4 (some .int) rmX7_balances B [rv B 328, iv a0, iv a1] σ (fX7_balances fu a0 a1 σ) := by
  refine ctI_intro (own := RX7) (lv := [(0, rv B 328), (1, iv a0), (2, iv a1)]) (by decide +kernel) rfl (Nat.le_of_ble_eq_true rfl) rfl (fun X hX => ?_)
  unfold fX7_balances
  refine s_aload_n 0 dX7_balances_0 rfl rfl ?_
  refine s_iconst dX7_balances_1 ?_
  refine s_puti dX7_balances_2 ly7 ty7 fl_X7_116 kd_328 rfl po7_20 ⟨rfl, rfl, by decide⟩ (fun s1 => ?_)
  refine s_iload_n 2 dX7_balances_5 rfl rfl ?_
  refine s_i2l dX7_balances_6 ?_
  refine s_lconst (x := 1) dX7_balances_7 (by decide) ?_
  refine s_ldc2 (x := 200) dX7_balances_8 cl_X7_308 (by decide) ?_
  refine s_Si (rest := []) dX7_balances_11 lk_X7_125 meX7_in (ctX7_in B fu (w32 a1) 1 200 s1) rfl rfl ⟨rfl, rfl, by decide, by decide⟩ (Nat.le_of_ble_eq_true rfl) (fun x1 s2 => ?_)
  refine s_jn (fun (j1 : Mem → PR) => ∀ (s12 : Mem), SX7_balances B X (j1 s12) s12 21 [] []) ?_ (fun j1 hj1 => ?_)
  · intro s3
    refine s_iconst dX7_balances_21 ?_
    exact s_iret hX dX7_balances_22
  · refine s_if_eq (tgt := 21) dX7_balances_14 (by decide) ?_ ?_
    · exact s_sub [] rfl (hj1 s2)
    · refine s_iload_n 1 dX7_balances_17 rfl rfl ?_
      refine s_if_ge (tgt := 23) dX7_balances_18 (by decide) ?_ ?_
      · refine s_iconst dX7_balances_23 ?_
        refine s_istore_n (lv' := [(3, iv 0), (0, rv B 328), (1, iv a0), (2, iv a1)]) dX7_balances_24 rfl (by decide) rfl ?_
        refine s_sub [1, 2, 3, 0] (lv' := [(0, rv B 328), (1, iv a0), (2, iv a1), (3, iv 0)]) rfl ?_
        refine fX7_balances_L25_s hX a0 a1 _ ?_ fu 0 s2
        intro x4 s8
        refine s_aload_n 0 dX7_balances_47 rfl rfl ?_
        refine s_iconst dX7_balances_48 ?_
        refine s_puti dX7_balances_49 ly7 ty7 fl_X7_119 kd_328 rfl po7_19 ⟨rfl, rfl, by decide⟩ (fun s9 => ?_)
        refine s_aload_n 0 dX7_balances_52 rfl rfl ?_
        refine s_aload_n 0 dX7_balances_53 rfl rfl ?_
        refine s_getl dX7_balances_54 ly7 fl_X7_287 kd_328 rfl ?_
        refine s_Vv (rest := []) dX7_balances_57 lk_X7_211 meX7_tell (ctX7_tell B fu (s9 328 46) s9) kd_328 ⟨rfl, by decide⟩ rfl rfl ⟨rfl, rfl, by decide, by decide⟩ (Nat.le_of_ble_eq_true rfl) (fun _ s10 => ?_)
        refine s_aload_n 0 dX7_balances_60 rfl rfl ?_
        refine s_aload_n 0 dX7_balances_61 rfl rfl ?_
        refine s_geti dX7_balances_62 ly7 fl_X7_192 kd_328 rfl ?_
        refine s_i2l dX7_balances_65 ?_
        refine s_Vv (rest := []) dX7_balances_66 lk_X7_211 meX7_tell (ctX7_tell B fu (w32 (s10 328 13)) s10) kd_328 ⟨rfl, by decide⟩ rfl rfl ⟨rfl, rfl, by decide, by decide⟩ (Nat.le_of_ble_eq_true rfl) (fun _ s11 => ?_)
        refine s_iload_n 1 dX7_balances_69 rfl rfl ?_
        exact s_iret hX dX7_balances_70
      · exact s_sub [] rfl (hj1 s2)
abbrev rmX7_averaged : Room := { frames := 3, cells := 0, slots := 0, locals := 68 }
abbrev SX7_averaged (B : Nat) (X : Ctx) := Sim cX7_averaged RX7 3 rmX7_averaged B X
set_option maxHeartbeats 4000000 in
set_option maxRecDepth 100000 in
theorem ctX7_averaged (B fu : Nat) (a0 : Int) (a1 : Int) (σ : Mem) : CtI yX7_averaged cX7_averaged 3 (some .int) rmX7_averaged B [rv B 328, iv a0, iv a1] σ (fX7_averaged fu a0 a1 σ) := by
  refine ctI_intro (own := RX7) (lv := [(0, rv B 328), (1, iv a0), (2, iv a1)]) (by decide +kernel) rfl (Nat.le_of_ble_eq_true rfl) rfl (fun X hX => ?_)
  unfold fX7_averaged
  refine s_aload_n 0 dX7_averaged_0 rfl rfl ?_
  refine s_iconst dX7_averaged_1 ?_
  refine s_puti dX7_averaged_2 ly7 ty7 fl_X7_116 kd_328 rfl po7_20 ⟨rfl, rfl, by decide⟩ (fun s1 => ?_)
  refine s_aload_n 0 dX7_averaged_5 rfl rfl ?_
  refine s_iload_n 1 dX7_averaged_6 rfl rfl ?_
  refine s_iload_n 2 dX7_averaged_7 rfl rfl ?_
  refine s_Vi (rest := []) dX7_averaged_8 lk_X7_252 meX7_isStep (ctX7_isStep B fu a0 a1 s1) kd_328 ⟨rfl, by decide⟩ rfl rfl ⟨rfl, rfl, by decide, by decide⟩ (Nat.le_of_ble_eq_true rfl) (fun x1 s2 => ?_)
  refine s_if_ne (tgt := 16) dX7_averaged_11 (by decide) ?_ ?_
  · refine s_aload_n 0 dX7_averaged_16 rfl rfl ?_
    refine s_iconst dX7_averaged_17 ?_
    refine s_puti dX7_averaged_18 ly7 ty7 fl_X7_119 kd_328 rfl po7_19 ⟨rfl, rfl, by decide⟩ (fun s3 => ?_)
    refine s_aload_n 0 dX7_averaged_21 rfl rfl ?_
    refine s_aload_n 0 dX7_averaged_22 rfl rfl ?_
    refine s_getr (n := 4) (k' := 333) dX7_averaged_23 ly7 fl_X7_22 kd_328 rfl rfl rfl ?_
    refine s_iload_n 1 dX7_averaged_26 rfl rfl ?_
    refine s_iload_n 2 dX7_averaged_27 rfl rfl ?_
    refine s_Si (rest := [rv B 333, rv B 328]) dX7_averaged_28 lk_X7_165 meX7_at (ctX7_at B fu a0 a1 s3) rfl rfl ⟨rfl, rfl, by decide, by decide⟩ (Nat.le_of_ble_eq_true rfl) (fun x2 s4 => ?_)
    refine s_lald 96 dX7_averaged_31 kd_333 (by decide) (fun x3 => ?_)
    refine s_Vv (rest := []) dX7_averaged_32 lk_X7_211 meX7_tell (ctX7_tell B fu x3 s4) kd_328 ⟨rfl, by decide⟩ rfl rfl ⟨rfl, rfl, by decide, by decide⟩ (Nat.le_of_ble_eq_true rfl) (fun _ s5 => ?_)
    refine s_aload_n 0 dX7_averaged_35 rfl rfl ?_
    refine s_getr (n := 5) (k' := 334) dX7_averaged_36 ly7 fl_X7_26 kd_328 rfl rfl rfl ?_
    refine s_iload_n 1 dX7_averaged_39 rfl rfl ?_
    refine s_iload_n 2 dX7_averaged_40 rfl rfl ?_
    refine s_Si (rest := [rv B 334]) dX7_averaged_41 lk_X7_165 meX7_at (ctX7_at B fu a0 a1 s5) rfl rfl ⟨rfl, rfl, by decide, by decide⟩ (Nat.le_of_ble_eq_true rfl) (fun x4 s6 => ?_)
    refine s_lald 96 dX7_averaged_44 kd_334 (by decide) (fun x5 => ?_)
    refine s_l2i dX7_averaged_45 ?_
    exact s_iret hX dX7_averaged_46
  · refine s_iconst dX7_averaged_14 ?_
    exact s_iret hX dX7_averaged_15
abbrev rmX7_clears : Room := { frames := 0, cells := 0, slots := 0, locals := 0 }
abbrev SX7_clears (B : Nat) (X : Ctx) := Sim cX7_clears RX7 3 rmX7_clears B X
set_option maxHeartbeats 4000000 in
set_option maxRecDepth 100000 in
theorem fX7_clears_L17_s {B fu : Nat} {X : Ctx} (hX : CxI .int B X) (c1 : Int) (k43 : Mem → PR) (hk43 : ∀ (s7 : Mem), SX7_clears B X (k43 s7) s7 43 [(1, iv c1)] []) : ∀ (n : Nat) (x2 : Int) (s6 : Mem), SX7_clears B X (fX7_clears_L17 fu c1 k43 n x2 s6) s6 17 [(0, rv B 328), (1, iv c1), (2, iv x2)] [] := by
  intro n
  induction n with
  | zero => intro _ _; exact s_none
  | succ n ih =>
    intro x2 s3
    rw [fX7_clears_L17]
    refine s_iload_n 2 dX7_clears_17 rfl rfl ?_
    refine s_bipush dX7_clears_18 (by decide) ?_
    refine s_icmp_ge (tgt := 43) dX7_clears_20 (by decide) ?_ ?_
    · exact s_sub [1] rfl (hk43 s3)
    · refine s_aload_n 0 dX7_clears_23 rfl rfl ?_
      refine s_getr (n := 4) (k' := 333) dX7_clears_24 ly7 fl_X7_22 kd_328 rfl rfl rfl ?_
      refine s_iload_n 2 dX7_clears_27 rfl rfl ?_
      refine s_lconst (x := 0) dX7_clears_28 (by decide) ?_
      refine s_last 96 dX7_clears_29 kd_333 (by decide) (fun s4 => ?_)
      refine s_aload_n 0 dX7_clears_30 rfl rfl ?_
      refine s_getr (n := 5) (k' := 334) dX7_clears_31 ly7 fl_X7_26 kd_328 rfl rfl rfl ?_
      refine s_iload_n 2 dX7_clears_34 rfl rfl ?_
      refine s_lconst (x := 0) dX7_clears_35 (by decide) ?_
      refine s_last 96 dX7_clears_36 kd_334 (by decide) (fun s5 => ?_)
      refine s_iinc (lv' := [(2, iv (x2 + 1)), (0, rv B 328), (1, iv c1)]) 2 dX7_clears_37 rfl (by decide) rfl ?_
      refine s_goto (tgt := 17) dX7_clears_40 (by decide) ?_
      exact s_sub [1, 2, 0] rfl (ih (x2 + 1) s5)
set_option maxHeartbeats 4000000 in
set_option maxRecDepth 100000 in
theorem ctX7_clears (B fu : Nat) (σ : Mem) : CtI yX7_clears cX7_clears 3 (some .int) rmX7_clears B [rv B 328] σ (fX7_clears fu σ) := by
  refine ctI_intro (own := RX7) (lv := [(0, rv B 328)]) (by decide +kernel) rfl (Nat.le_of_ble_eq_true rfl) rfl (fun X hX => ?_)
  unfold fX7_clears
  refine s_aload_n 0 dX7_clears_0 rfl rfl ?_
  refine s_iconst dX7_clears_1 ?_
  refine s_puti dX7_clears_2 ly7 ty7 fl_X7_116 kd_328 rfl po7_20 ⟨rfl, rfl, by decide⟩ (fun s1 => ?_)
  refine s_aload_n 0 dX7_clears_5 rfl rfl ?_
  refine s_geti dX7_clears_6 ly7 fl_X7_192 kd_328 rfl ?_
  refine s_lti (fun x1 => ?_)
  refine s_istore_n (lv' := [(1, iv x1), (0, rv B 328)]) dX7_clears_9 rfl (by decide) rfl ?_
  refine s_aload_n 1 dX7_clears_10 rfl rfl ?_
  refine s_iconst dX7_clears_11 ?_
  refine s_puti dX7_clears_12 ly7 ty7 fl_X7_192 kd_328 rfl po7_13 ⟨rfl, rfl, by decide⟩ (fun s2 => ?_)
  refine s_iconst dX7_clears_15 ?_
  refine s_istore_n (lv' := [(2, iv 0), (1, iv x1), (0, rv B 328)]) dX7_clears_16 rfl (by decide) rfl ?_
  refine s_sub [2, 1, 0] (lv' := [(0, rv B 328), (1, iv x1), (2, iv 0)]) rfl ?_
  refine fX7_clears_L17_s hX x1 _ ?_ fu 0 s2
  intro s8
  refine s_iload_n 0 dX7_clears_43 rfl rfl ?_
  exact s_iret hX dX7_clears_44
abbrev rmX7_before : Room := { frames := 8, cells := 0, slots := 0, locals := 183 }
abbrev SX7_before (B : Nat) (X : Ctx) := Sim cX7_before RX7 1 rmX7_before B X
set_option maxHeartbeats 4000000 in
set_option maxRecDepth 100000 in
theorem ctX7_before (B fu : Nat) (σ : Mem) : CtL yX7_before cX7_before 1 (some .long) rmX7_before B [rv B 328] σ (fX7_before fu σ) := by
  refine ctL_intro (own := RX7) (lv := [(0, rv B 328)]) (by decide +kernel) rfl (Nat.le_of_ble_eq_true rfl) rfl (fun X hX => ?_)
  unfold fX7_before
  refine s_aload_n 0 dX7_before_0 rfl rfl ?_
  refine s_Vv (rest := []) dX7_before_1 lk_X7_246 meX7_laysCosts (ctX7_laysCosts B fu σ) kd_328 ⟨rfl, by decide⟩ rfl rfl ⟨rfl, rfl, by decide, by decide⟩ (Nat.le_of_ble_eq_true rfl) (fun _ s1 => ?_)
  refine s_aload_n 0 dX7_before_4 rfl rfl ?_
  refine s_Vl (rest := []) dX7_before_5 lk_X7_279 meX7_totalNow (ctX7_totalNow B fu s1) kd_328 ⟨rfl, by decide⟩ rfl rfl ⟨rfl, rfl, by decide, by decide⟩ (Nat.le_of_ble_eq_true rfl) (fun x1 s2 => ?_)
  exact s_lret hX dX7_before_8
abbrev rmX7_tells : Room := { frames := 1, cells := 0, slots := 0, locals := 22 }
abbrev SX7_tells (B : Nat) (X : Ctx) := Sim cX7_tells RX7 5 rmX7_tells B X
set_option maxHeartbeats 4000000 in
set_option maxRecDepth 100000 in
theorem ctX7_tells (B fu : Nat) (a0 : Int) (a1 : Int) (σ : Mem) : CtL yX7_tells cX7_tells 5 (some .long) rmX7_tells B [rv B 328, jv a0, jv a1] σ (fX7_tells fu a0 a1 σ) := by
  refine ctL_intro (own := RX7) (lv := [(0, rv B 328), (1, jv a0), (3, jv a1)]) (by decide +kernel) rfl (Nat.le_of_ble_eq_true rfl) rfl (fun X hX => ?_)
  unfold fX7_tells
  refine s_aload_n 0 dX7_tells_0 rfl rfl ?_
  refine s_iconst dX7_tells_1 ?_
  refine s_puti dX7_tells_2 ly7 ty7 fl_X7_119 kd_328 rfl po7_19 ⟨rfl, rfl, by decide⟩ (fun s1 => ?_)
  refine s_aload_n 0 dX7_tells_5 rfl rfl ?_
  refine s_lload_n 1 dX7_tells_6 rfl rfl ?_
  refine s_aload_n 0 dX7_tells_7 rfl rfl ?_
  refine s_getl dX7_tells_8 ly7 fl_X7_310 kd_328 rfl ?_
  refine s_lsub dX7_tells_11 ?_
  refine s_Vv (rest := []) dX7_tells_12 lk_X7_211 meX7_tell (ctX7_tell B fu (a0 - (s1 328 47)) s1) kd_328 ⟨rfl, by decide⟩ rfl rfl ⟨rfl, rfl, by decide, by decide⟩ (Nat.le_of_ble_eq_true rfl) (fun _ s2 => ?_)
  refine s_aload_n 0 dX7_tells_15 rfl rfl ?_
  refine s_lload_n 2 dX7_tells_16 rfl rfl ?_
  refine s_Vv (rest := []) dX7_tells_17 lk_X7_211 meX7_tell (ctX7_tell B fu a1 s2) kd_328 ⟨rfl, by decide⟩ rfl rfl ⟨rfl, rfl, by decide, by decide⟩ (Nat.le_of_ble_eq_true rfl) (fun _ s3 => ?_)
  refine s_lload_n 1 dX7_tells_20 rfl rfl ?_
  exact s_lret hX dX7_tells_21
abbrev rmX7_without : Room := { frames := 9, cells := 0, slots := 0, locals := 203 }
abbrev SX7_without (B : Nat) (X : Ctx) := Sim cX7_without RX7 4 rmX7_without B X
set_option maxHeartbeats 4000000 in
set_option maxRecDepth 100000 in
theorem ctX7_without (B fu : Nat) (a0 : Int) (σ : Mem) : CtL yX7_without cX7_without 4 (some .long) rmX7_without B [rv B 328, iv a0] σ (fX7_without fu a0 σ) := by
  refine ctL_intro (own := RX7) (lv := [(0, rv B 328), (1, iv a0)]) (by decide +kernel) rfl (Nat.le_of_ble_eq_true rfl) rfl (fun X hX => ?_)
  unfold fX7_without
  refine s_aload_n 0 dX7_without_0 rfl rfl ?_
  refine s_iconst dX7_without_1 ?_
  refine s_puti dX7_without_2 ly7 ty7 fl_X7_116 kd_328 rfl po7_20 ⟨rfl, rfl, by decide⟩ (fun s1 => ?_)
  refine s_aload_n 0 dX7_without_5 rfl rfl ?_
  refine s_iload_n 1 dX7_without_6 rfl rfl ?_
  refine s_Vi (rest := []) dX7_without_7 lk_X7_134 meX7_isLine (ctX7_isLine B fu a0 s1) kd_328 ⟨rfl, by decide⟩ rfl rfl ⟨rfl, rfl, by decide, by decide⟩ (Nat.le_of_ble_eq_true rfl) (fun x1 s2 => ?_)
  refine s_if_ne (tgt := 17) dX7_without_10 (by decide) ?_ ?_
  · refine s_aload_n 0 dX7_without_17 rfl rfl ?_
    refine s_getr (n := 8) (k' := 337) dX7_without_18 ly7 fl_X7_35 kd_328 rfl rfl rfl ?_
    refine s_iload_n 1 dX7_without_21 rfl rfl ?_
    refine s_zald 12 dX7_without_22 kd_337 (by decide) (fun x2 => ?_)
    refine s_if_eq (tgt := 30) dX7_without_23 (by decide) ?_ ?_
    · refine s_aload_n 0 dX7_without_30 rfl rfl ?_
      refine s_aload_n 0 dX7_without_31 rfl rfl ?_
      refine s_Vl (rest := [rv B 328]) dX7_without_32 lk_X7_315 meX7_before (ctX7_before B fu s2) kd_328 ⟨rfl, by decide⟩ rfl rfl ⟨rfl, rfl, by decide, by decide⟩ (Nat.le_of_ble_eq_true rfl) (fun x3 s3 => ?_)
      refine s_putl dX7_without_35 ly7 ty7 fl_X7_310 kd_328 rfl po7_47 ⟨rfl, rfl, by decide⟩ (fun s4 => ?_)
      refine s_aload_n 0 dX7_without_38 rfl rfl ?_
      refine s_getr (n := 8) (k' := 337) dX7_without_39 ly7 fl_X7_35 kd_328 rfl rfl rfl ?_
      refine s_iload_n 1 dX7_without_42 rfl rfl ?_
      refine s_iconst dX7_without_43 ?_
      refine s_zast 12 dX7_without_44 kd_337 (by decide) (fun s5 => ?_)
      refine s_aload_n 0 dX7_without_45 rfl rfl ?_
      refine s_Vl (rest := []) dX7_without_46 lk_X7_315 meX7_before (ctX7_before B fu s5) kd_328 ⟨rfl, by decide⟩ rfl rfl ⟨rfl, rfl, by decide, by decide⟩ (Nat.le_of_ble_eq_true rfl) (fun x4 s6 => ?_)
      refine s_lstore_n (lv' := [(2, jv x4), (0, rv B 328), (1, iv a0)]) dX7_without_49 rfl (by decide) rfl ?_
      refine s_aload_n 1 dX7_without_50 rfl rfl ?_
      refine s_getr (n := 8) (k' := 337) dX7_without_51 ly7 fl_X7_35 kd_328 rfl rfl rfl ?_
      refine s_iload_n 2 dX7_without_54 rfl rfl ?_
      refine s_iconst dX7_without_55 ?_
      refine s_zast 12 dX7_without_56 kd_337 (by decide) (fun s7 => ?_)
      refine s_aload_n 1 dX7_without_57 rfl rfl ?_
      refine s_lload_n 0 dX7_without_58 rfl rfl ?_
      refine s_aload_n 1 dX7_without_59 rfl rfl ?_
      refine s_Vl (rest := [jv x4, rv B 328]) dX7_without_60 lk_X7_275 meX7_strandedNow (ctX7_strandedNow B fu s7) kd_328 ⟨rfl, by decide⟩ rfl rfl ⟨rfl, rfl, by decide, by decide⟩ (Nat.le_of_ble_eq_true rfl) (fun x5 s8 => ?_)
      refine s_Vl (rest := []) dX7_without_63 lk_X7_318 meX7_tells (ctX7_tells B fu x4 x5 s8) kd_328 ⟨rfl, by decide⟩ rfl rfl ⟨rfl, rfl, by decide, by decide⟩ (Nat.le_of_ble_eq_true rfl) (fun x6 s9 => ?_)
      exact s_lret hX dX7_without_66
    · refine s_ldc2 (x := -2) dX7_without_26 cl_X7_313 (by decide) ?_
      exact s_lret hX dX7_without_29
  · refine s_ldc2 (x := -1) dX7_without_13 cl_X7_215 (by decide) ?_
    exact s_lret hX dX7_without_16
abbrev rmX7_shut : Room := { frames := 9, cells := 0, slots := 0, locals := 203 }
abbrev SX7_shut (B : Nat) (X : Ctx) := Sim cX7_shut RX7 4 rmX7_shut B X
set_option maxHeartbeats 4000000 in
set_option maxRecDepth 100000 in
theorem ctX7_shut (B fu : Nat) (a0 : Int) (σ : Mem) : CtL yX7_shut cX7_shut 4 (some .long) rmX7_shut B [rv B 328, iv a0] σ (fX7_shut fu a0 σ) := by
  refine ctL_intro (own := RX7) (lv := [(0, rv B 328), (1, iv a0)]) (by decide +kernel) rfl (Nat.le_of_ble_eq_true rfl) rfl (fun X hX => ?_)
  unfold fX7_shut
  refine s_aload_n 0 dX7_shut_0 rfl rfl ?_
  refine s_iconst dX7_shut_1 ?_
  refine s_puti dX7_shut_2 ly7 ty7 fl_X7_116 kd_328 rfl po7_20 ⟨rfl, rfl, by decide⟩ (fun s1 => ?_)
  refine s_iload_n 1 dX7_shut_5 rfl rfl ?_
  refine s_Si (rest := []) dX7_shut_6 lk_X7_162 meX7_isStop (ctX7_isStop B fu a0 s1) rfl rfl ⟨rfl, rfl, by decide, by decide⟩ (Nat.le_of_ble_eq_true rfl) (fun x1 s2 => ?_)
  refine s_if_ne (tgt := 16) dX7_shut_9 (by decide) ?_ ?_
  · refine s_aload_n 0 dX7_shut_16 rfl rfl ?_
    refine s_getr (n := 10) (k' := 339) dX7_shut_17 ly7 fl_X7_46 kd_328 rfl rfl rfl ?_
    refine s_iload_n 1 dX7_shut_20 rfl rfl ?_
    refine s_zald 10 dX7_shut_21 kd_339 (by decide) (fun x2 => ?_)
    refine s_if_eq (tgt := 29) dX7_shut_22 (by decide) ?_ ?_
    · refine s_aload_n 0 dX7_shut_29 rfl rfl ?_
      refine s_aload_n 0 dX7_shut_30 rfl rfl ?_
      refine s_Vl (rest := [rv B 328]) dX7_shut_31 lk_X7_315 meX7_before (ctX7_before B fu s2) kd_328 ⟨rfl, by decide⟩ rfl rfl ⟨rfl, rfl, by decide, by decide⟩ (Nat.le_of_ble_eq_true rfl) (fun x3 s3 => ?_)
      refine s_putl dX7_shut_34 ly7 ty7 fl_X7_310 kd_328 rfl po7_47 ⟨rfl, rfl, by decide⟩ (fun s4 => ?_)
      refine s_aload_n 0 dX7_shut_37 rfl rfl ?_
      refine s_getr (n := 10) (k' := 339) dX7_shut_38 ly7 fl_X7_46 kd_328 rfl rfl rfl ?_
      refine s_iload_n 1 dX7_shut_41 rfl rfl ?_
      refine s_iconst dX7_shut_42 ?_
      refine s_zast 10 dX7_shut_43 kd_339 (by decide) (fun s5 => ?_)
      refine s_aload_n 0 dX7_shut_44 rfl rfl ?_
      refine s_Vl (rest := []) dX7_shut_45 lk_X7_315 meX7_before (ctX7_before B fu s5) kd_328 ⟨rfl, by decide⟩ rfl rfl ⟨rfl, rfl, by decide, by decide⟩ (Nat.le_of_ble_eq_true rfl) (fun x4 s6 => ?_)
      refine s_lstore_n (lv' := [(2, jv x4), (0, rv B 328), (1, iv a0)]) dX7_shut_48 rfl (by decide) rfl ?_
      refine s_aload_n 1 dX7_shut_49 rfl rfl ?_
      refine s_getr (n := 10) (k' := 339) dX7_shut_50 ly7 fl_X7_46 kd_328 rfl rfl rfl ?_
      refine s_iload_n 2 dX7_shut_53 rfl rfl ?_
      refine s_iconst dX7_shut_54 ?_
      refine s_zast 10 dX7_shut_55 kd_339 (by decide) (fun s7 => ?_)
      refine s_aload_n 1 dX7_shut_56 rfl rfl ?_
      refine s_lload_n 0 dX7_shut_57 rfl rfl ?_
      refine s_aload_n 1 dX7_shut_58 rfl rfl ?_
      refine s_Vl (rest := [jv x4, rv B 328]) dX7_shut_59 lk_X7_275 meX7_strandedNow (ctX7_strandedNow B fu s7) kd_328 ⟨rfl, by decide⟩ rfl rfl ⟨rfl, rfl, by decide, by decide⟩ (Nat.le_of_ble_eq_true rfl) (fun x5 s8 => ?_)
      refine s_Vl (rest := []) dX7_shut_62 lk_X7_318 meX7_tells (ctX7_tells B fu x4 x5 s8) kd_328 ⟨rfl, by decide⟩ rfl rfl ⟨rfl, rfl, by decide, by decide⟩ (Nat.le_of_ble_eq_true rfl) (fun x6 s9 => ?_)
      exact s_lret hX dX7_shut_65
    · refine s_ldc2 (x := -2) dX7_shut_25 cl_X7_313 (by decide) ?_
      exact s_lret hX dX7_shut_28
  · refine s_ldc2 (x := -1) dX7_shut_12 cl_X7_215 (by decide) ?_
    exact s_lret hX dX7_shut_15
abbrev rmX7_totalWith : Room := { frames := 9, cells := 0, slots := 0, locals := 203 }
abbrev SX7_totalWith (B : Nat) (X : Ctx) := Sim cX7_totalWith RX7 5 rmX7_totalWith B X
set_option maxHeartbeats 4000000 in
set_option maxRecDepth 100000 in
theorem ctX7_totalWith (B fu : Nat) (a0 : Int) (a1 : Int) (σ : Mem) : CtL yX7_totalWith cX7_totalWith 5 (some .long) rmX7_totalWith B [rv B 328, iv a0, iv a1] σ (fX7_totalWith fu a0 a1 σ) := by
  refine ctL_intro (own := RX7) (lv := [(0, rv B 328), (1, iv a0), (2, iv a1)]) (by decide +kernel) rfl (Nat.le_of_ble_eq_true rfl) rfl (fun X hX => ?_)
  unfold fX7_totalWith
  refine s_aload_n 0 dX7_totalWith_0 rfl rfl ?_
  refine s_getr (n := 0) (k' := 329) dX7_totalWith_1 ly7 fl_X7_9 kd_328 rfl rfl rfl ?_
  refine s_iload_n 1 dX7_totalWith_4 rfl rfl ?_
  refine s_dup2 dX7_totalWith_5 rfl rfl ?_
  refine s_iald 12 dX7_totalWith_6 kd_329 (by decide) (fun x1 => ?_)
  refine s_iload_n 2 dX7_totalWith_7 rfl rfl ?_
  refine s_iadd dX7_totalWith_8 ?_
  refine s_iast 12 dX7_totalWith_9 kd_329 (by decide) (fun s1 => ?_)
  refine s_aload_n 0 dX7_totalWith_10 rfl rfl ?_
  refine s_Vl (rest := []) dX7_totalWith_11 lk_X7_315 meX7_before (ctX7_before B fu s1) kd_328 ⟨rfl, by decide⟩ rfl rfl ⟨rfl, rfl, by decide, by decide⟩ (Nat.le_of_ble_eq_true rfl) (fun x2 s2 => ?_)
  refine s_lstore_n (lv' := [(3, jv x2), (0, rv B 328), (1, iv a0), (2, iv a1)]) dX7_totalWith_14 rfl (by decide) rfl ?_
  refine s_aload_n 1 dX7_totalWith_15 rfl rfl ?_
  refine s_getr (n := 0) (k' := 329) dX7_totalWith_16 ly7 fl_X7_9 kd_328 rfl rfl rfl ?_
  refine s_iload_n 2 dX7_totalWith_19 rfl rfl ?_
  refine s_dup2 dX7_totalWith_20 rfl rfl ?_
  refine s_iald 12 dX7_totalWith_21 kd_329 (by decide) (fun x3 => ?_)
  refine s_iload_n 3 dX7_totalWith_22 rfl rfl ?_
  refine s_isub dX7_totalWith_23 ?_
  refine s_iast 12 dX7_totalWith_24 kd_329 (by decide) (fun s3 => ?_)
  refine s_lload_n 0 dX7_totalWith_25 rfl rfl ?_
  exact s_lret hX dX7_totalWith_26
abbrev rmX7_more : Room := { frames := 10, cells := 0, slots := 0, locals := 227 }
abbrev SX7_more (B : Nat) (X : Ctx) := Sim cX7_more RX7 5 rmX7_more B X
set_option maxHeartbeats 4000000 in
set_option maxRecDepth 100000 in
theorem ctX7_more (B fu : Nat) (a0 : Int) (a1 : Int) (σ : Mem) : CtL yX7_more cX7_more 5 (some .long) rmX7_more B [rv B 328, iv a0, iv a1] σ (fX7_more fu a0 a1 σ) := by
  refine ctL_intro (own := RX7) (lv := [(0, rv B 328), (1, iv a0), (2, iv a1)]) (by decide +kernel) rfl (Nat.le_of_ble_eq_true rfl) rfl (fun X hX => ?_)
  unfold fX7_more
  refine s_aload_n 0 dX7_more_0 rfl rfl ?_
  refine s_iconst dX7_more_1 ?_
  refine s_puti dX7_more_2 ly7 ty7 fl_X7_116 kd_328 rfl po7_20 ⟨rfl, rfl, by decide⟩ (fun s1 => ?_)
  refine s_aload_n 0 dX7_more_5 rfl rfl ?_
  refine s_iload_n 1 dX7_more_6 rfl rfl ?_
  refine s_Vi (rest := []) dX7_more_7 lk_X7_134 meX7_isLine (ctX7_isLine B fu a0 s1) kd_328 ⟨rfl, by decide⟩ rfl rfl ⟨rfl, rfl, by decide, by decide⟩ (Nat.le_of_ble_eq_true rfl) (fun x1 s2 => ?_)
  refine s_jn (fun (j1 : Mem → PR) => ∀ (s11 : Mem), SX7_more B X (j1 s11) s11 46 [] []) ?_ (fun j1 hj1 => ?_)
  · intro s3
    refine s_ldc2 (x := -1) dX7_more_46 cl_X7_215 (by decide) ?_
    exact s_lret hX dX7_more_49
  · refine s_if_eq (tgt := 46) dX7_more_10 (by decide) ?_ ?_
    · exact s_sub [] rfl (hj1 s2)
    · refine s_iload_n 2 dX7_more_13 rfl rfl ?_
      refine s_i2l dX7_more_14 ?_
      refine s_ldc2 (x := -59) dX7_more_15 cl_X7_321 (by decide) ?_
      refine s_ldc2 (x := 59) dX7_more_18 cl_X7_323 (by decide) ?_
      refine s_Si (rest := []) dX7_more_21 lk_X7_125 meX7_in (ctX7_in B fu (w32 a1) (-59) 59 s2) rfl rfl ⟨rfl, rfl, by decide, by decide⟩ (Nat.le_of_ble_eq_true rfl) (fun x2 s4 => ?_)
      refine s_if_eq (tgt := 46) dX7_more_24 (by decide) ?_ ?_
      · exact s_sub [] rfl (hj1 s4)
      · refine s_aload_n 0 dX7_more_27 rfl rfl ?_
        refine s_getr (n := 0) (k' := 329) dX7_more_28 ly7 fl_X7_9 kd_328 rfl rfl rfl ?_
        refine s_iload_n 1 dX7_more_31 rfl rfl ?_
        refine s_iald 12 dX7_more_32 kd_329 (by decide) (fun x3 => ?_)
        refine s_iload_n 2 dX7_more_33 rfl rfl ?_
        refine s_iadd dX7_more_34 ?_
        refine s_i2l dX7_more_35 ?_
        refine s_lconst (x := 1) dX7_more_36 (by decide) ?_
        refine s_ldc2 (x := 60) dX7_more_37 cl_X7_205 (by decide) ?_
        refine s_Si (rest := []) dX7_more_40 lk_X7_125 meX7_in (ctX7_in B fu (w32 (x3 + a1)) 1 60 s4) rfl rfl ⟨rfl, rfl, by decide, by decide⟩ (Nat.le_of_ble_eq_true rfl) (fun x4 s5 => ?_)
        refine s_if_ne (tgt := 50) dX7_more_43 (by decide) ?_ ?_
        · refine s_aload_n 0 dX7_more_50 rfl rfl ?_
          refine s_aload_n 0 dX7_more_51 rfl rfl ?_
          refine s_Vl (rest := [rv B 328]) dX7_more_52 lk_X7_315 meX7_before (ctX7_before B fu s5) kd_328 ⟨rfl, by decide⟩ rfl rfl ⟨rfl, rfl, by decide, by decide⟩ (Nat.le_of_ble_eq_true rfl) (fun x5 s6 => ?_)
          refine s_putl dX7_more_55 ly7 ty7 fl_X7_310 kd_328 rfl po7_47 ⟨rfl, rfl, by decide⟩ (fun s7 => ?_)
          refine s_aload_n 0 dX7_more_58 rfl rfl ?_
          refine s_iload_n 1 dX7_more_59 rfl rfl ?_
          refine s_iload_n 2 dX7_more_60 rfl rfl ?_
          refine s_Vl (rest := []) dX7_more_61 lk_X7_325 meX7_totalWith (ctX7_totalWith B fu a0 a1 s7) kd_328 ⟨rfl, by decide⟩ rfl rfl ⟨rfl, rfl, by decide, by decide⟩ (Nat.le_of_ble_eq_true rfl) (fun x6 s8 => ?_)
          refine s_lstore_n (lv' := [(3, jv x6), (0, rv B 328), (1, iv a0), (2, iv a1)]) dX7_more_64 rfl (by decide) rfl ?_
          refine s_aload_n 1 dX7_more_65 rfl rfl ?_
          refine s_lload_n 0 dX7_more_66 rfl rfl ?_
          refine s_aload_n 1 dX7_more_67 rfl rfl ?_
          refine s_Vl (rest := [jv x6, rv B 328]) dX7_more_68 lk_X7_275 meX7_strandedNow (ctX7_strandedNow B fu s8) kd_328 ⟨rfl, by decide⟩ rfl rfl ⟨rfl, rfl, by decide, by decide⟩ (Nat.le_of_ble_eq_true rfl) (fun x7 s9 => ?_)
          refine s_Vl (rest := []) dX7_more_71 lk_X7_318 meX7_tells (ctX7_tells B fu x6 x7 s9) kd_328 ⟨rfl, by decide⟩ rfl rfl ⟨rfl, rfl, by decide, by decide⟩ (Nat.le_of_ble_eq_true rfl) (fun x8 s10 => ?_)
          exact s_lret hX dX7_more_74
        · exact s_sub [] rfl (hj1 s5)
abbrev rmX7_best : Room := { frames := 10, cells := 0, slots := 0, locals := 227 }
abbrev SX7_best (B : Nat) (X : Ctx) := Sim cX7_best RX7 8 rmX7_best B X
set_option maxHeartbeats 4000000 in
set_option maxRecDepth 100000 in
theorem fX7_best_L26_s {B fu : Nat} {X : Ctx} (hX : CxI .int B X) (c1 : Int) (k98 : Int → Int → Mem → PR) (hk98 : ∀ (x5 : Int) (x6 : Int) (s10 : Mem), SX7_best B X (k98 x5 x6 s10) s10 98 [(0, rv B 328), (2, iv x5), (3, jv x6)] []) : ∀ (n : Nat) (x2 : Int) (x3 : Int) (x4 : Int) (s9 : Mem), SX7_best B X (fX7_best_L26 fu c1 k98 n x2 x3 x4 s9) s9 26 [(0, rv B 328), (1, iv c1), (2, iv x2), (3, jv x3), (5, iv x4)] [] := by
  intro n
  induction n with
  | zero => intro _ _ _ _; exact s_none
  | succ n ih =>
    intro x2 x3 x4 s3
    rw [fX7_best_L26]
    refine s_iload 4 dX7_best_26 rfl ?_
    refine s_aload_n 0 dX7_best_28 rfl rfl ?_
    refine s_geti dX7_best_29 ly7 fl_X7_129 kd_328 rfl ?_
    refine s_icmp_ge (tgt := 98) dX7_best_32 (by decide) ?_ ?_
    · exact s_sub [0, 2, 3] rfl (hk98 x2 x3 s3)
    · refine s_aload_n 0 dX7_best_35 rfl rfl ?_
      refine s_getr (n := 8) (k' := 337) dX7_best_36 ly7 fl_X7_35 kd_328 rfl rfl rfl ?_
      refine s_iload 4 dX7_best_39 rfl ?_
      refine s_zald 12 dX7_best_41 kd_337 (by decide) (fun x7 => ?_)
      refine s_jn (fun (j1 : Int → Int → Mem → PR) => ∀ (x8 : Int) (x9 : Int) (s8 : Mem), SX7_best B X (j1 x8 x9 s8) s8 92 [(0, rv B 328), (1, iv c1), (2, iv x8), (3, jv x9), (5, iv x4)] []) ?_ (fun j1 hj1 => ?_)
      · intro x8 x9 s4
        refine s_iinc (lv' := [(5, iv (x4 + 1)), (0, rv B 328), (1, iv c1), (2, iv x8), (3, jv x9)]) 4 dX7_best_92 rfl (by decide) rfl ?_
        refine s_goto (tgt := 26) dX7_best_95 (by decide) ?_
        exact s_sub [1, 2, 3, 4, 0] rfl (ih x8 x9 (x4 + 1) s4)
      · refine s_if_ne (tgt := 92) dX7_best_42 (by decide) ?_ ?_
        · exact hj1 x2 x3 s3
        · refine s_aload_n 0 dX7_best_45 rfl rfl ?_
          refine s_getr (n := 0) (k' := 329) dX7_best_46 ly7 fl_X7_9 kd_328 rfl rfl rfl ?_
          refine s_iload 4 dX7_best_49 rfl ?_
          refine s_iald 12 dX7_best_51 kd_329 (by decide) (fun x10 => ?_)
          refine s_iload_n 1 dX7_best_52 rfl rfl ?_
          refine s_iadd dX7_best_53 ?_
          refine s_bipush dX7_best_54 (by decide) ?_
          refine s_icmp_le (tgt := 62) dX7_best_56 (by decide) ?_ ?_
          · refine s_aload_n 0 dX7_best_62 rfl rfl ?_
            refine s_iload 4 dX7_best_63 rfl ?_
            refine s_iload_n 1 dX7_best_65 rfl rfl ?_
            refine s_Vl (rest := []) dX7_best_66 lk_X7_325 meX7_totalWith (ctX7_totalWith B fu x4 c1 s3) kd_328 ⟨rfl, by decide⟩ rfl rfl ⟨rfl, rfl, by decide, by decide⟩ (Nat.le_of_ble_eq_true rfl) (fun x11 s5 => ?_)
            refine s_lstore (lv' := [(6, jv x11), (0, rv B 328), (1, iv c1), (2, iv x2), (3, jv x3), (5, iv x4)]) dX7_best_69 (by decide) rfl ?_
            refine s_iload_n 3 dX7_best_71 rfl rfl ?_
            refine s_iconst dX7_best_72 ?_
            refine s_jn (fun (j2 : Mem → PR) => ∀ (s7 : Mem), SX7_best B X (j2 s7) s7 86 [(0, rv B 328), (1, iv c1), (5, iv x4), (6, jv x11)] []) ?_ (fun j2 hj2 => ?_)
            · intro s6
              refine s_iload 2 dX7_best_86 rfl ?_
              refine s_istore_n (lv' := [(2, iv x4), (0, rv B 328), (1, iv c1), (5, iv x4), (6, jv x11)]) dX7_best_88 rfl (by decide) rfl ?_
              refine s_lload 4 dX7_best_89 rfl ?_
              refine s_lstore_n (lv' := [(3, jv x11), (2, iv x4), (0, rv B 328), (1, iv c1), (5, iv x4), (6, jv x11)]) dX7_best_91 rfl (by decide) rfl ?_
              exact s_sub [2, 3, 1, 0, 4] rfl (hj1 x4 x11 s6)
            · refine s_icmp_eq (tgt := 86) dX7_best_73 (by decide) ?_ ?_
              · exact s_sub [1, 2, 5, 0] rfl (hj2 s5)
              · refine s_lload 0 dX7_best_76 rfl ?_
                refine s_lload_n 4 dX7_best_78 rfl rfl ?_
                refine s_lif_lt (tgt := 86) dX7_best_79 dX7_best_80 (by decide) ?_ ?_
                · exact s_sub [1, 2, 5, 0] rfl (hj2 s5)
                · refine s_goto (tgt := 92) dX7_best_83 (by decide) ?_
                  exact s_sub [1, 2, 3, 4, 5] rfl (hj1 x2 x3 s5)
          · refine s_goto (tgt := 92) dX7_best_59 (by decide) ?_
            exact hj1 x2 x3 s3
set_option maxHeartbeats 4000000 in
set_option maxRecDepth 100000 in
theorem ctX7_best (B fu : Nat) (a0 : Int) (σ : Mem) : CtI yX7_best cX7_best 8 (some .int) rmX7_best B [rv B 328, iv a0] σ (fX7_best fu a0 σ) := by
  refine ctI_intro (own := RX7) (lv := [(0, rv B 328), (1, iv a0)]) (by decide +kernel) rfl (Nat.le_of_ble_eq_true rfl) rfl (fun X hX => ?_)
  unfold fX7_best
  refine s_aload_n 0 dX7_best_0 rfl rfl ?_
  refine s_iconst dX7_best_1 ?_
  refine s_puti dX7_best_2 ly7 ty7 fl_X7_116 kd_328 rfl po7_20 ⟨rfl, rfl, by decide⟩ (fun s1 => ?_)
  refine s_iload_n 1 dX7_best_5 rfl rfl ?_
  refine s_i2l dX7_best_6 ?_
  refine s_lconst (x := 1) dX7_best_7 (by decide) ?_
  refine s_ldc2 (x := 59) dX7_best_8 cl_X7_323 (by decide) ?_
  refine s_Si (rest := []) dX7_best_11 lk_X7_125 meX7_in (ctX7_in B fu (w32 a0) 1 59 s1) rfl rfl ⟨rfl, rfl, by decide, by decide⟩ (Nat.le_of_ble_eq_true rfl) (fun x1 s2 => ?_)
  refine s_if_ne (tgt := 19) dX7_best_14 (by decide) ?_ ?_
  · refine s_iconst dX7_best_19 ?_
    refine s_istore_n (lv' := [(2, iv (-1)), (0, rv B 328), (1, iv a0)]) dX7_best_20 rfl (by decide) rfl ?_
    refine s_lconst (x := 0) dX7_best_21 (by decide) ?_
    refine s_lstore_n (lv' := [(3, jv 0), (2, iv (-1)), (0, rv B 328), (1, iv a0)]) dX7_best_22 rfl (by decide) rfl ?_
    refine s_iconst dX7_best_23 ?_
    refine s_istore (lv' := [(5, iv 0), (3, jv 0), (2, iv (-1)), (0, rv B 328), (1, iv a0)]) dX7_best_24 (by decide) rfl ?_
    refine s_sub [3, 4, 2, 1, 0] (lv' := [(0, rv B 328), (1, iv a0), (2, iv (-1)), (3, jv 0), (5, iv 0)]) rfl ?_
    refine fX7_best_L26_s hX a0 _ ?_ fu (-1) 0 0 s2
    intro x12 x13 s11
    refine s_iload_n 1 dX7_best_98 rfl rfl ?_
    refine s_iconst dX7_best_99 ?_
    refine s_icmp_ne (tgt := 106) dX7_best_100 (by decide) ?_ ?_
    · refine s_aload_n 0 dX7_best_106 rfl rfl ?_
      refine s_iconst dX7_best_107 ?_
      refine s_puti dX7_best_108 ly7 ty7 fl_X7_119 kd_328 rfl po7_19 ⟨rfl, rfl, by decide⟩ (fun s12 => ?_)
      refine s_aload_n 0 dX7_best_111 rfl rfl ?_
      refine s_lload_n 2 dX7_best_112 rfl rfl ?_
      refine s_aload_n 0 dX7_best_113 rfl rfl ?_
      refine s_Vl (rest := [jv x13, rv B 328]) dX7_best_114 lk_X7_315 meX7_before (ctX7_before B fu s12) kd_328 ⟨rfl, by decide⟩ rfl rfl ⟨rfl, rfl, by decide, by decide⟩ (Nat.le_of_ble_eq_true rfl) (fun x14 s13 => ?_)
      refine s_lsub dX7_best_117 ?_
      refine s_Vv (rest := []) dX7_best_118 lk_X7_211 meX7_tell (ctX7_tell B fu (x13 - x14) s13) kd_328 ⟨rfl, by decide⟩ rfl rfl ⟨rfl, rfl, by decide, by decide⟩ (Nat.le_of_ble_eq_true rfl) (fun _ s14 => ?_)
      refine s_iload_n 1 dX7_best_121 rfl rfl ?_
      exact s_iret hX dX7_best_122
    · refine s_bipush dX7_best_103 (by decide) ?_
      exact s_iret hX dX7_best_105
  · refine s_iconst dX7_best_17 ?_
    exact s_iret hX dX7_best_18
abbrev rmX7_towards : Room := { frames := 9, cells := 0, slots := 0, locals := 203 }
abbrev SX7_towards (B : Nat) (X : Ctx) := Sim cX7_towards RX7 7 rmX7_towards B X
set_option maxHeartbeats 4000000 in
set_option maxRecDepth 100000 in
theorem ctX7_towards (B fu : Nat) (a0 : Int) (σ : Mem) : CtL yX7_towards cX7_towards 7 (some .long) rmX7_towards B [rv B 328, iv a0] σ (fX7_towards fu a0 σ) := by
  refine ctL_intro (own := RX7) (lv := [(0, rv B 328), (1, iv a0)]) (by decide +kernel) rfl (Nat.le_of_ble_eq_true rfl) rfl (fun X hX => ?_)
  unfold fX7_towards
  refine s_aload_n 0 dX7_towards_0 rfl rfl ?_
  refine s_iconst dX7_towards_1 ?_
  refine s_puti dX7_towards_2 ly7 ty7 fl_X7_116 kd_328 rfl po7_20 ⟨rfl, rfl, by decide⟩ (fun s1 => ?_)
  refine s_iload_n 1 dX7_towards_5 rfl rfl ?_
  refine s_Si (rest := []) dX7_towards_6 lk_X7_162 meX7_isStop (ctX7_isStop B fu a0 s1) rfl rfl ⟨rfl, rfl, by decide, by decide⟩ (Nat.le_of_ble_eq_true rfl) (fun x1 s2 => ?_)
  refine s_if_ne (tgt := 16) dX7_towards_9 (by decide) ?_ ?_
  · refine s_aload_n 0 dX7_towards_16 rfl rfl ?_
    refine s_aload_n 0 dX7_towards_17 rfl rfl ?_
    refine s_Vl (rest := [rv B 328]) dX7_towards_18 lk_X7_315 meX7_before (ctX7_before B fu s2) kd_328 ⟨rfl, by decide⟩ rfl rfl ⟨rfl, rfl, by decide, by decide⟩ (Nat.le_of_ble_eq_true rfl) (fun x2 s3 => ?_)
    refine s_putl dX7_towards_21 ly7 ty7 fl_X7_310 kd_328 rfl po7_47 ⟨rfl, rfl, by decide⟩ (fun s4 => ?_)
    refine s_aload_n 0 dX7_towards_24 rfl rfl ?_
    refine s_geti dX7_towards_25 ly7 fl_X7_197 kd_328 rfl ?_
    refine s_lti (fun x3 => ?_)
    refine s_istore_n (lv' := [(2, iv x3), (0, rv B 328), (1, iv a0)]) dX7_towards_28 rfl (by decide) rfl ?_
    refine s_aload_n 1 dX7_towards_29 rfl rfl ?_
    refine s_iload_n 2 dX7_towards_30 rfl rfl ?_
    refine s_puti dX7_towards_31 ly7 ty7 fl_X7_197 kd_328 rfl po7_11 ⟨rfl, rfl, by decide⟩ (fun s5 => ?_)
    refine s_aload_n 1 dX7_towards_34 rfl rfl ?_
    refine s_Vl (rest := []) dX7_towards_35 lk_X7_315 meX7_before (ctX7_before B fu s5) kd_328 ⟨rfl, by decide⟩ rfl rfl ⟨rfl, rfl, by decide, by decide⟩ (Nat.le_of_ble_eq_true rfl) (fun x4 s6 => ?_)
    refine s_lstore_n (lv' := [(3, jv x4), (2, iv x3), (0, rv B 328), (1, iv a0)]) dX7_towards_38 rfl (by decide) rfl ?_
    refine s_aload_n 2 dX7_towards_39 rfl rfl ?_
    refine s_Vl (rest := []) dX7_towards_40 lk_X7_275 meX7_strandedNow (ctX7_strandedNow B fu s6) kd_328 ⟨rfl, by decide⟩ rfl rfl ⟨rfl, rfl, by decide, by decide⟩ (Nat.le_of_ble_eq_true rfl) (fun x5 s7 => ?_)
    refine s_lstore (lv' := [(5, jv x5), (3, jv x4), (2, iv x3), (0, rv B 328), (1, iv a0)]) dX7_towards_43 (by decide) rfl ?_
    refine s_aload_n 3 dX7_towards_45 rfl rfl ?_
    refine s_iload_n 2 dX7_towards_46 rfl rfl ?_
    refine s_puti dX7_towards_47 ly7 ty7 fl_X7_197 kd_328 rfl po7_11 ⟨rfl, rfl, by decide⟩ (fun s8 => ?_)
    refine s_aload_n 3 dX7_towards_50 rfl rfl ?_
    refine s_lload_n 1 dX7_towards_51 rfl rfl ?_
    refine s_lload 0 dX7_towards_52 rfl ?_
    refine s_Vl (rest := []) dX7_towards_54 lk_X7_318 meX7_tells (ctX7_tells B fu x4 x5 s8) kd_328 ⟨rfl, by decide⟩ rfl rfl ⟨rfl, rfl, by decide, by decide⟩ (Nat.le_of_ble_eq_true rfl) (fun x6 s9 => ?_)
    exact s_lret hX dX7_towards_57
  · refine s_ldc2 (x := -1) dX7_towards_12 cl_X7_215 (by decide) ?_
    exact s_lret hX dX7_towards_15
abbrev rmX7_slower : Room := { frames := 9, cells := 0, slots := 0, locals := 203 }
abbrev SX7_slower (B : Nat) (X : Ctx) := Sim cX7_slower RX7 6 rmX7_slower B X
set_option maxHeartbeats 4000000 in
set_option maxRecDepth 100000 in
theorem ctX7_slower (B fu : Nat) (a0 : Int) (a1 : Int) (a2 : Int) (σ : Mem) : CtL yX7_slower cX7_slower 6 (some .long) rmX7_slower B [rv B 328, iv a0, iv a1, iv a2] σ (fX7_slower fu a0 a1 a2 σ) := by
  refine ctL_intro (own := RX7) (lv := [(0, rv B 328), (1, iv a0), (2, iv a1), (3, iv a2)]) (by decide +kernel) rfl (Nat.le_of_ble_eq_true rfl) rfl (fun X hX => ?_)
  unfold fX7_slower
  refine s_aload_n 0 dX7_slower_0 rfl rfl ?_
  refine s_iconst dX7_slower_1 ?_
  refine s_puti dX7_slower_2 ly7 ty7 fl_X7_116 kd_328 rfl po7_20 ⟨rfl, rfl, by decide⟩ (fun s1 => ?_)
  refine s_aload_n 0 dX7_slower_5 rfl rfl ?_
  refine s_iload_n 1 dX7_slower_6 rfl rfl ?_
  refine s_iload_n 2 dX7_slower_7 rfl rfl ?_
  refine s_Vi (rest := []) dX7_slower_8 lk_X7_252 meX7_isStep (ctX7_isStep B fu a0 a1 s1) kd_328 ⟨rfl, by decide⟩ rfl rfl ⟨rfl, rfl, by decide, by decide⟩ (Nat.le_of_ble_eq_true rfl) (fun x1 s2 => ?_)
  refine s_jn (fun (j1 : Mem → PR) => ∀ (s15 : Mem), SX7_slower B X (j1 s15) s15 38 [] []) ?_ (fun j1 hj1 => ?_)
  · intro s3
    refine s_ldc2 (x := -1) dX7_slower_38 cl_X7_215 (by decide) ?_
    exact s_lret hX dX7_slower_41
  · refine s_if_eq (tgt := 38) dX7_slower_11 (by decide) ?_ ?_
    · exact s_sub [] rfl (hj1 s2)
    · refine s_aload_n 0 dX7_slower_14 rfl rfl ?_
      refine s_getr (n := 3) (k' := 332) dX7_slower_15 ly7 fl_X7_19 kd_328 rfl rfl rfl ?_
      refine s_iload_n 1 dX7_slower_18 rfl rfl ?_
      refine s_iload_n 2 dX7_slower_19 rfl rfl ?_
      refine s_Si (rest := [rv B 332]) dX7_slower_20 lk_X7_165 meX7_at (ctX7_at B fu a0 a1 s2) rfl rfl ⟨rfl, rfl, by decide, by decide⟩ (Nat.le_of_ble_eq_true rfl) (fun x2 s4 => ?_)
      refine s_iald 96 dX7_slower_23 kd_332 (by decide) (fun x3 => ?_)
      refine s_i2l dX7_slower_24 ?_
      refine s_iload_n 3 dX7_slower_25 rfl rfl ?_
      refine s_i2l dX7_slower_26 ?_
      refine s_ladd dX7_slower_27 ?_
      refine s_lconst (x := 1) dX7_slower_28 (by decide) ?_
      refine s_ldc2 (x := 99) dX7_slower_29 cl_X7_328 (by decide) ?_
      refine s_Si (rest := []) dX7_slower_32 lk_X7_125 meX7_in (ctX7_in B fu ((w32 x3) + (w32 a2)) 1 99 s4) rfl rfl ⟨rfl, rfl, by decide, by decide⟩ (Nat.le_of_ble_eq_true rfl) (fun x4 s5 => ?_)
      refine s_if_ne (tgt := 42) dX7_slower_35 (by decide) ?_ ?_
      · refine s_aload_n 0 dX7_slower_42 rfl rfl ?_
        refine s_aload_n 0 dX7_slower_43 rfl rfl ?_
        refine s_Vl (rest := [rv B 328]) dX7_slower_44 lk_X7_315 meX7_before (ctX7_before B fu s5) kd_328 ⟨rfl, by decide⟩ rfl rfl ⟨rfl, rfl, by decide, by decide⟩ (Nat.le_of_ble_eq_true rfl) (fun x5 s6 => ?_)
        refine s_putl dX7_slower_47 ly7 ty7 fl_X7_310 kd_328 rfl po7_47 ⟨rfl, rfl, by decide⟩ (fun s7 => ?_)
        refine s_aload_n 0 dX7_slower_50 rfl rfl ?_
        refine s_getr (n := 3) (k' := 332) dX7_slower_51 ly7 fl_X7_19 kd_328 rfl rfl rfl ?_
        refine s_iload_n 1 dX7_slower_54 rfl rfl ?_
        refine s_iload_n 2 dX7_slower_55 rfl rfl ?_
        refine s_Si (rest := [rv B 332]) dX7_slower_56 lk_X7_165 meX7_at (ctX7_at B fu a0 a1 s7) rfl rfl ⟨rfl, rfl, by decide, by decide⟩ (Nat.le_of_ble_eq_true rfl) (fun x6 s8 => ?_)
        refine s_dup2 dX7_slower_59 rfl rfl ?_
        refine s_iald 96 dX7_slower_60 kd_332 (by decide) (fun x7 => ?_)
        refine s_iload_n 3 dX7_slower_61 rfl rfl ?_
        refine s_iadd dX7_slower_62 ?_
        refine s_iast 96 dX7_slower_63 kd_332 (by decide) (fun s9 => ?_)
        refine s_aload_n 0 dX7_slower_64 rfl rfl ?_
        refine s_Vl (rest := []) dX7_slower_65 lk_X7_315 meX7_before (ctX7_before B fu s9) kd_328 ⟨rfl, by decide⟩ rfl rfl ⟨rfl, rfl, by decide, by decide⟩ (Nat.le_of_ble_eq_true rfl) (fun x8 s10 => ?_)
        refine s_lstore (lv' := [(4, jv x8), (0, rv B 328), (1, iv a0), (2, iv a1), (3, iv a2)]) dX7_slower_68 (by decide) rfl ?_
        refine s_aload_n 1 dX7_slower_70 rfl rfl ?_
        refine s_getr (n := 3) (k' := 332) dX7_slower_71 ly7 fl_X7_19 kd_328 rfl rfl rfl ?_
        refine s_iload_n 2 dX7_slower_74 rfl rfl ?_
        refine s_iload_n 3 dX7_slower_75 rfl rfl ?_
        refine s_Si (rest := [rv B 332]) dX7_slower_76 lk_X7_165 meX7_at (ctX7_at B fu a0 a1 s10) rfl rfl ⟨rfl, rfl, by decide, by decide⟩ (Nat.le_of_ble_eq_true rfl) (fun x9 s11 => ?_)
        refine s_dup2 dX7_slower_79 rfl rfl ?_
        refine s_iald 96 dX7_slower_80 kd_332 (by decide) (fun x10 => ?_)
        refine s_iload_n 4 dX7_slower_81 rfl rfl ?_
        refine s_isub dX7_slower_82 ?_
        refine s_iast 96 dX7_slower_83 kd_332 (by decide) (fun s12 => ?_)
        refine s_aload_n 1 dX7_slower_84 rfl rfl ?_
        refine s_lload 0 dX7_slower_85 rfl ?_
        refine s_aload_n 1 dX7_slower_87 rfl rfl ?_
        refine s_Vl (rest := [jv x8, rv B 328]) dX7_slower_88 lk_X7_275 meX7_strandedNow (ctX7_strandedNow B fu s12) kd_328 ⟨rfl, by decide⟩ rfl rfl ⟨rfl, rfl, by decide, by decide⟩ (Nat.le_of_ble_eq_true rfl) (fun x11 s13 => ?_)
        refine s_Vl (rest := []) dX7_slower_91 lk_X7_318 meX7_tells (ctX7_tells B fu x8 x11 s13) kd_328 ⟨rfl, by decide⟩ rfl rfl ⟨rfl, rfl, by decide, by decide⟩ (Nat.le_of_ble_eq_true rfl) (fun x12 s14 => ?_)
        exact s_lret hX dX7_slower_94
      · exact s_sub [] rfl (hj1 s5)
abbrev rmX7_skips : Room := { frames := 9, cells := 0, slots := 0, locals := 203 }
abbrev SX7_skips (B : Nat) (X : Ctx) := Sim cX7_skips RX7 5 rmX7_skips B X
set_option maxHeartbeats 4000000 in
set_option maxRecDepth 100000 in
theorem ctX7_skips (B fu : Nat) (a0 : Int) (a1 : Int) (σ : Mem) : CtL yX7_skips cX7_skips 5 (some .long) rmX7_skips B [rv B 328, iv a0, iv a1] σ (fX7_skips fu a0 a1 σ) := by
  refine ctL_intro (own := RX7) (lv := [(0, rv B 328), (1, iv a0), (2, iv a1)]) (by decide +kernel) rfl (Nat.le_of_ble_eq_true rfl) rfl (fun X hX => ?_)
  unfold fX7_skips
  refine s_aload_n 0 dX7_skips_0 rfl rfl ?_
  refine s_iconst dX7_skips_1 ?_
  refine s_puti dX7_skips_2 ly7 ty7 fl_X7_116 kd_328 rfl po7_20 ⟨rfl, rfl, by decide⟩ (fun s1 => ?_)
  refine s_aload_n 0 dX7_skips_5 rfl rfl ?_
  refine s_iload_n 1 dX7_skips_6 rfl rfl ?_
  refine s_iload_n 2 dX7_skips_7 rfl rfl ?_
  refine s_Vi (rest := []) dX7_skips_8 lk_X7_252 meX7_isStep (ctX7_isStep B fu a0 a1 s1) kd_328 ⟨rfl, by decide⟩ rfl rfl ⟨rfl, rfl, by decide, by decide⟩ (Nat.le_of_ble_eq_true rfl) (fun x1 s2 => ?_)
  refine s_jn (fun (j1 : Mem → PR) => ∀ (s12 : Mem), SX7_skips B X (j1 s12) s12 18 [] []) ?_ (fun j1 hj1 => ?_)
  · intro s3
    refine s_ldc2 (x := -1) dX7_skips_18 cl_X7_215 (by decide) ?_
    exact s_lret hX dX7_skips_21
  · refine s_if_eq (tgt := 18) dX7_skips_11 (by decide) ?_ ?_
    · exact s_sub [] rfl (hj1 s2)
    · refine s_iload_n 2 dX7_skips_14 rfl rfl ?_
      refine s_if_ne (tgt := 22) dX7_skips_15 (by decide) ?_ ?_
      · refine s_aload_n 0 dX7_skips_22 rfl rfl ?_
        refine s_aload_n 0 dX7_skips_23 rfl rfl ?_
        refine s_Vl (rest := [rv B 328]) dX7_skips_24 lk_X7_315 meX7_before (ctX7_before B fu s2) kd_328 ⟨rfl, by decide⟩ rfl rfl ⟨rfl, rfl, by decide, by decide⟩ (Nat.le_of_ble_eq_true rfl) (fun x2 s4 => ?_)
        refine s_putl dX7_skips_27 ly7 ty7 fl_X7_310 kd_328 rfl po7_47 ⟨rfl, rfl, by decide⟩ (fun s5 => ?_)
        refine s_aload_n 0 dX7_skips_30 rfl rfl ?_
        refine s_iload_n 1 dX7_skips_31 rfl rfl ?_
        refine s_iload_n 2 dX7_skips_32 rfl rfl ?_
        refine s_Si (rest := [rv B 328]) dX7_skips_33 lk_X7_165 meX7_at (ctX7_at B fu a0 a1 s5) rfl rfl ⟨rfl, rfl, by decide, by decide⟩ (Nat.le_of_ble_eq_true rfl) (fun x3 s6 => ?_)
        refine s_puti dX7_skips_36 ly7 ty7 fl_X7_89 kd_328 rfl po7_37 ⟨rfl, rfl, by decide⟩ (fun s7 => ?_)
        refine s_aload_n 0 dX7_skips_39 rfl rfl ?_
        refine s_Vl (rest := []) dX7_skips_40 lk_X7_315 meX7_before (ctX7_before B fu s7) kd_328 ⟨rfl, by decide⟩ rfl rfl ⟨rfl, rfl, by decide, by decide⟩ (Nat.le_of_ble_eq_true rfl) (fun x4 s8 => ?_)
        refine s_lstore_n (lv' := [(3, jv x4), (0, rv B 328), (1, iv a0), (2, iv a1)]) dX7_skips_43 rfl (by decide) rfl ?_
        refine s_aload_n 1 dX7_skips_44 rfl rfl ?_
        refine s_iconst dX7_skips_45 ?_
        refine s_puti dX7_skips_46 ly7 ty7 fl_X7_89 kd_328 rfl po7_37 ⟨rfl, rfl, by decide⟩ (fun s9 => ?_)
        refine s_aload_n 1 dX7_skips_49 rfl rfl ?_
        refine s_lload_n 0 dX7_skips_50 rfl rfl ?_
        refine s_aload_n 1 dX7_skips_51 rfl rfl ?_
        refine s_Vl (rest := [jv x4, rv B 328]) dX7_skips_52 lk_X7_275 meX7_strandedNow (ctX7_strandedNow B fu s9) kd_328 ⟨rfl, by decide⟩ rfl rfl ⟨rfl, rfl, by decide, by decide⟩ (Nat.le_of_ble_eq_true rfl) (fun x5 s10 => ?_)
        refine s_Vl (rest := []) dX7_skips_55 lk_X7_318 meX7_tells (ctX7_tells B fu x4 x5 s10) kd_328 ⟨rfl, by decide⟩ rfl rfl ⟨rfl, rfl, by decide, by decide⟩ (Nat.le_of_ble_eq_true rfl) (fun x6 s11 => ?_)
        exact s_lret hX dX7_skips_58
      · exact s_sub [] rfl (hj1 s2)
abbrev rmX7_uses : Room := { frames := 9, cells := 0, slots := 0, locals := 204 }
abbrev SX7_uses (B : Nat) (X : Ctx) := Sim cX7_uses RX7 8 rmX7_uses B X
set_option maxHeartbeats 4000000 in
set_option maxRecDepth 100000 in
theorem fX7_uses_L42_s {B fu : Nat} {X : Ctx} (hX : CxI .int B X) (c1 : Int) (c2 : Int) (k84 : Mem → PR) (hk84 : ∀ (s12 : Mem), SX7_uses B X (k84 s12) s12 84 [(0, rv B 328), (2, iv c2)] []) : ∀ (n : Nat) (x4 : Int) (s11 : Mem), SX7_uses B X (fX7_uses_L42 fu c1 c2 k84 n x4 s11) s11 42 [(0, rv B 328), (1, iv c1), (2, iv c2), (3, iv x4)] [] := by
  intro n
  induction n with
  | zero => intro _ _; exact s_none
  | succ n ih =>
    intro x4 s6
    rw [fX7_uses_L42]
    refine s_iload_n 3 dX7_uses_42 rfl rfl ?_
    refine s_bipush dX7_uses_43 (by decide) ?_
    refine s_icmp_ge (tgt := 84) dX7_uses_45 (by decide) ?_ ?_
    · exact s_sub [0, 2] rfl (hk84 s6)
    · refine s_aload_n 0 dX7_uses_48 rfl rfl ?_
      refine s_getr (n := 31) (k' := 360) dX7_uses_49 ly7 fl_X7_113 kd_328 rfl rfl rfl ?_
      refine s_iload_n 3 dX7_uses_52 rfl rfl ?_
      refine s_aload_n 0 dX7_uses_53 rfl rfl ?_
      refine s_getr (n := 9) (k' := 338) dX7_uses_54 ly7 fl_X7_43 kd_328 rfl rfl rfl ?_
      refine s_iload_n 3 dX7_uses_57 rfl rfl ?_
      refine s_iald 10 dX7_uses_58 kd_338 (by decide) (fun x5 => ?_)
      refine s_iast 10 dX7_uses_59 kd_360 (by decide) (fun s7 => ?_)
      refine s_aload_n 0 dX7_uses_60 rfl rfl ?_
      refine s_getr (n := 9) (k' := 338) dX7_uses_61 ly7 fl_X7_43 kd_328 rfl rfl rfl ?_
      refine s_iload_n 3 dX7_uses_64 rfl rfl ?_
      refine s_iload_n 3 dX7_uses_65 rfl rfl ?_
      refine s_iload_n 1 dX7_uses_66 rfl rfl ?_
      refine s_jn (fun (j2 : Int → Mem → PR) => ∀ (x6 : Int) (s10 : Mem), SX7_uses B X (j2 x6 s10) s10 77 [(0, rv B 328), (1, iv c1), (2, iv c2), (3, iv x4)] [iv x6, iv x4, rv B 338]) ?_ (fun j2 hj2 => ?_)
      · intro x6 s8
        refine s_iast 10 dX7_uses_77 kd_338 (by decide) (fun s9 => ?_)
        refine s_iinc (lv' := [(3, iv (x4 + 1)), (0, rv B 328), (1, iv c1), (2, iv c2)]) 3 dX7_uses_78 rfl (by decide) rfl ?_
        refine s_goto (tgt := 42) dX7_uses_81 (by decide) ?_
        exact s_sub [1, 2, 3, 0] rfl (ih (x4 + 1) s9)
      · refine s_icmp_ne (tgt := 76) dX7_uses_67 (by decide) ?_ ?_
        · refine s_iconst dX7_uses_76 ?_
          exact hj2 0 s7
        · refine s_sipush dX7_uses_70 (by decide) ?_
          refine s_goto (tgt := 77) dX7_uses_73 (by decide) ?_
          exact hj2 1000 s7
set_option maxHeartbeats 4000000 in
set_option maxRecDepth 100000 in
theorem fX7_uses_L90_s {B fu : Nat} {X : Ctx} (hX : CxI .int B X) (c3 : Int) (k114 : Mem → PR) (hk114 : ∀ (s18 : Mem), SX7_uses B X (k114 s18) s18 114 [(0, rv B 328), (2, iv c3)] []) : ∀ (n : Nat) (x7 : Int) (s17 : Mem), SX7_uses B X (fX7_uses_L90 fu c3 k114 n x7 s17) s17 90 [(0, rv B 328), (2, iv c3), (3, iv x7)] [] := by
  intro n
  induction n with
  | zero => intro _ _; exact s_none
  | succ n ih =>
    intro x7 s15
    rw [fX7_uses_L90]
    refine s_iload_n 2 dX7_uses_90 rfl rfl ?_
    refine s_bipush dX7_uses_91 (by decide) ?_
    refine s_icmp_ge (tgt := 114) dX7_uses_93 (by decide) ?_ ?_
    · exact s_sub [0, 1] rfl (hk114 s15)
    · refine s_aload_n 0 dX7_uses_96 rfl rfl ?_
      refine s_getr (n := 9) (k' := 338) dX7_uses_97 ly7 fl_X7_43 kd_328 rfl rfl rfl ?_
      refine s_iload_n 2 dX7_uses_100 rfl rfl ?_
      refine s_aload_n 0 dX7_uses_101 rfl rfl ?_
      refine s_getr (n := 31) (k' := 360) dX7_uses_102 ly7 fl_X7_113 kd_328 rfl rfl rfl ?_
      refine s_iload_n 2 dX7_uses_105 rfl rfl ?_
      refine s_iald 10 dX7_uses_106 kd_360 (by decide) (fun x8 => ?_)
      refine s_iast 10 dX7_uses_107 kd_338 (by decide) (fun s16 => ?_)
      refine s_iinc (lv' := [(3, iv (x7 + 1)), (0, rv B 328), (2, iv c3)]) 2 dX7_uses_108 rfl (by decide) rfl ?_
      refine s_goto (tgt := 90) dX7_uses_111 (by decide) ?_
      exact s_sub [1, 2, 0] rfl (ih (x7 + 1) s16)
set_option maxHeartbeats 4000000 in
set_option maxRecDepth 100000 in
theorem fX7_uses_L122_s {B fu : Nat} {X : Ctx} (hX : CxI .int B X) (c4 : Int) (k153 : Int → Mem → PR) (hk153 : ∀ (x11 : Int) (s23 : Mem), SX7_uses B X (k153 x11 s23) s23 153 [(0, rv B 328), (3, jv x11), (5, jv 0)] []) : ∀ (n : Nat) (x9 : Int) (x10 : Int) (s22 : Mem), SX7_uses B X (fX7_uses_L122 fu c4 k153 n x9 x10 s22) s22 122 [(0, rv B 328), (2, iv c4), (3, jv x9), (5, jv 0), (7, iv x10)] [] := by
  intro n
  induction n with
  | zero => intro _ _ _; exact s_none
  | succ n ih =>
    intro x9 x10 s20
    rw [fX7_uses_L122]
    refine s_iload 4 dX7_uses_122 rfl ?_
    refine s_aload_n 0 dX7_uses_124 rfl rfl ?_
    refine s_getr (n := 1) (k' := 330) dX7_uses_125 ly7 fl_X7_13 kd_328 rfl rfl rfl ?_
    refine s_iload_n 1 dX7_uses_128 rfl rfl ?_
    refine s_iald 12 dX7_uses_129 kd_330 (by decide) (fun x12 => ?_)
    refine s_icmp_ge (tgt := 153) dX7_uses_130 (by decide) ?_ ?_
    · exact s_sub [0, 2, 3] rfl (hk153 x9 s20)
    · refine s_lload_n 2 dX7_uses_133 rfl rfl ?_
      refine s_aload_n 0 dX7_uses_134 rfl rfl ?_
      refine s_getr (n := 28) (k' := 357) dX7_uses_135 ly7 fl_X7_104 kd_328 rfl rfl rfl ?_
      refine s_iload_n 1 dX7_uses_138 rfl rfl ?_
      refine s_iload 4 dX7_uses_139 rfl ?_
      refine s_Si (rest := [rv B 357, jv x9]) dX7_uses_141 lk_X7_165 meX7_at (ctX7_at B fu c4 x10 s20) rfl rfl ⟨rfl, rfl, by decide, by decide⟩ (Nat.le_of_ble_eq_true rfl) (fun x13 s21 => ?_)
      refine s_lald 96 dX7_uses_144 kd_357 (by decide) (fun x14 => ?_)
      refine s_ladd dX7_uses_145 ?_
      refine s_ltl (fun x15 => ?_)
      refine s_lstore_n (lv' := [(3, jv x15), (0, rv B 328), (2, iv c4), (5, jv 0), (7, iv x10)]) dX7_uses_146 rfl (by decide) rfl ?_
      refine s_iinc (lv' := [(7, iv (x10 + 1)), (3, jv x15), (0, rv B 328), (2, iv c4), (5, jv 0)]) 4 dX7_uses_147 rfl (by decide) rfl ?_
      refine s_goto (tgt := 122) dX7_uses_150 (by decide) ?_
      exact s_sub [2, 3, 1, 4, 0] rfl (ih x15 (x10 + 1) s21)
set_option maxHeartbeats 4000000 in
set_option maxRecDepth 100000 in
theorem fX7_uses_L156_s {B fu : Nat} {X : Ctx} (hX : CxI .int B X) (c5 : Int) (k194 : Int → Mem → PR) (hk194 : ∀ (x19 : Int) (s29 : Mem), SX7_uses B X (k194 x19 s29) s29 194 [(0, rv B 328), (3, jv c5), (5, jv x19)] []) : ∀ (n : Nat) (x17 : Int) (x18 : Int) (s28 : Mem), SX7_uses B X (fX7_uses_L156 fu c5 k194 n x17 x18 s28) s28 156 [(0, rv B 328), (3, jv c5), (5, jv x17), (7, iv x18)] [] := by
  intro n
  induction n with
  | zero => intro _ _ _; exact s_none
  | succ n ih =>
    intro x17 x18 s25
    rw [fX7_uses_L156]
    refine s_iload 3 dX7_uses_156 rfl ?_
    refine s_bipush dX7_uses_158 (by decide) ?_
    refine s_icmp_ge (tgt := 194) dX7_uses_160 (by decide) ?_ ?_
    · exact s_sub [0, 1, 2] rfl (hk194 x17 s25)
    · refine s_lload 2 dX7_uses_163 rfl ?_
      refine s_iload 3 dX7_uses_165 rfl ?_
      refine s_aload_n 0 dX7_uses_167 rfl rfl ?_
      refine s_geti dX7_uses_168 ly7 fl_X7_197 kd_328 rfl ?_
      refine s_jn (fun (j3 : Int → Mem → PR) => ∀ (x20 : Int) (s27 : Mem), SX7_uses B X (j3 x20 s27) s27 185 [(0, rv B 328), (3, jv c5), (7, iv x18)] [jv x20, jv x17]) ?_ (fun j3 hj3 => ?_)
      · intro x20 s26
        refine s_ladd dX7_uses_185 ?_
        refine s_ltl (fun x21 => ?_)
        refine s_lstore (lv' := [(5, jv x21), (0, rv B 328), (3, jv c5), (7, iv x18)]) dX7_uses_186 (by decide) rfl ?_
        refine s_iinc (lv' := [(7, iv (x18 + 1)), (5, jv x21), (0, rv B 328), (3, jv c5)]) 3 dX7_uses_188 rfl (by decide) rfl ?_
        refine s_goto (tgt := 156) dX7_uses_191 (by decide) ?_
        exact s_sub [2, 3, 1, 0] rfl (ih x21 (x18 + 1) s26)
      · refine s_icmp_ne (tgt := 178) dX7_uses_171 (by decide) ?_ ?_
        · refine s_aload_n 0 dX7_uses_178 rfl rfl ?_
          refine s_getr (n := 30) (k' := 359) dX7_uses_179 ly7 fl_X7_110 kd_328 rfl rfl rfl ?_
          refine s_iload 3 dX7_uses_182 rfl ?_
          refine s_lald 10 dX7_uses_184 kd_359 (by decide) (fun x22 => ?_)
          exact s_sub [0, 1, 3] rfl (hj3 x22 s25)
        · refine s_lconst (x := 0) dX7_uses_174 (by decide) ?_
          refine s_goto (tgt := 185) dX7_uses_175 (by decide) ?_
          exact s_sub [0, 1, 3] rfl (hj3 0 s25)
set_option maxHeartbeats 4000000 in
set_option maxRecDepth 100000 in
theorem ctX7_uses (B fu : Nat) (a0 : Int) (a1 : Int) (σ : Mem) : CtI yX7_uses cX7_uses 8 (some .int) rmX7_uses B [rv B 328, iv a0, iv a1] σ (fX7_uses fu a0 a1 σ) := by
  refine ctI_intro (own := RX7) (lv := [(0, rv B 328), (1, iv a0), (2, iv a1)]) (by decide +kernel) rfl (Nat.le_of_ble_eq_true rfl) rfl (fun X hX => ?_)
  unfold fX7_uses
  refine s_aload_n 0 dX7_uses_0 rfl rfl ?_
  refine s_iconst dX7_uses_1 ?_
  refine s_puti dX7_uses_2 ly7 ty7 fl_X7_116 kd_328 rfl po7_20 ⟨rfl, rfl, by decide⟩ (fun s1 => ?_)
  refine s_iload_n 1 dX7_uses_5 rfl rfl ?_
  refine s_Si (rest := []) dX7_uses_6 lk_X7_162 meX7_isStop (ctX7_isStop B fu a0 s1) rfl rfl ⟨rfl, rfl, by decide, by decide⟩ (Nat.le_of_ble_eq_true rfl) (fun x1 s2 => ?_)
  refine s_jn (fun (j1 : Mem → PR) => ∀ (s33 : Mem), SX7_uses B X (j1 s33) s33 20 [] []) ?_ (fun j1 hj1 => ?_)
  · intro s3
    refine s_iconst dX7_uses_20 ?_
    exact s_iret hX dX7_uses_21
  · refine s_if_eq (tgt := 20) dX7_uses_9 (by decide) ?_ ?_
    · exact s_sub [] rfl (hj1 s2)
    · refine s_aload_n 0 dX7_uses_12 rfl rfl ?_
      refine s_iload_n 2 dX7_uses_13 rfl rfl ?_
      refine s_Vi (rest := []) dX7_uses_14 lk_X7_134 meX7_isLine (ctX7_isLine B fu a1 s2) kd_328 ⟨rfl, by decide⟩ rfl rfl ⟨rfl, rfl, by decide, by decide⟩ (Nat.le_of_ble_eq_true rfl) (fun x2 s4 => ?_)
      refine s_if_ne (tgt := 22) dX7_uses_17 (by decide) ?_ ?_
      · refine s_aload_n 0 dX7_uses_22 rfl rfl ?_
        refine s_Vv (rest := []) dX7_uses_23 lk_X7_246 meX7_laysCosts (ctX7_laysCosts B fu s4) kd_328 ⟨rfl, by decide⟩ rfl rfl ⟨rfl, rfl, by decide, by decide⟩ (Nat.le_of_ble_eq_true rfl) (fun _ s5 => ?_)
        refine s_aload_n 0 dX7_uses_26 rfl rfl ?_
        refine s_getr (n := 17) (k' := 346) dX7_uses_27 ly7 fl_X7_68 kd_328 rfl rfl rfl ?_
        refine s_iload_n 1 dX7_uses_30 rfl rfl ?_
        refine s_lald 10 dX7_uses_31 kd_346 (by decide) (fun x3 => ?_)
        refine s_lconst (x := 0) dX7_uses_32 (by decide) ?_
        refine s_lif_ge (tgt := 40) dX7_uses_33 dX7_uses_34 (by decide) ?_ ?_
        · refine s_iconst dX7_uses_40 ?_
          refine s_istore_n (lv' := [(3, iv 0), (0, rv B 328), (1, iv a0), (2, iv a1)]) dX7_uses_41 rfl (by decide) rfl ?_
          refine s_sub [1, 2, 3, 0] (lv' := [(0, rv B 328), (1, iv a0), (2, iv a1), (3, iv 0)]) rfl ?_
          refine fX7_uses_L42_s hX a0 a1 _ ?_ fu 0 s5
          intro s13
          refine s_aload_n 0 dX7_uses_84 rfl rfl ?_
          refine s_Vv (rest := []) dX7_uses_85 lk_X7_272 meX7_laysLoads (ctX7_laysLoads B fu s13) kd_328 ⟨rfl, by decide⟩ rfl rfl ⟨rfl, rfl, by decide, by decide⟩ (Nat.le_of_ble_eq_true rfl) (fun _ s14 => ?_)
          refine s_iconst dX7_uses_88 ?_
          refine s_istore_n (lv' := [(3, iv 0), (0, rv B 328), (2, iv a1)]) dX7_uses_89 rfl (by decide) rfl ?_
          refine s_sub [1, 2, 0] (lv' := [(0, rv B 328), (2, iv a1), (3, iv 0)]) rfl ?_
          refine fX7_uses_L90_s hX a1 _ ?_ fu 0 s14
          intro s19
          refine s_lconst (x := 0) dX7_uses_114 (by decide) ?_
          refine s_lstore_n (lv' := [(3, jv 0), (0, rv B 328), (2, iv a1)]) dX7_uses_115 rfl (by decide) rfl ?_
          refine s_lconst (x := 0) dX7_uses_116 (by decide) ?_
          refine s_lstore (lv' := [(5, jv 0), (3, jv 0), (0, rv B 328), (2, iv a1)]) dX7_uses_117 (by decide) rfl ?_
          refine s_iconst dX7_uses_119 ?_
          refine s_istore (lv' := [(7, iv 0), (5, jv 0), (3, jv 0), (0, rv B 328), (2, iv a1)]) dX7_uses_120 (by decide) rfl ?_
          refine s_sub [3, 4, 2, 1, 0] (lv' := [(0, rv B 328), (2, iv a1), (3, jv 0), (5, jv 0), (7, iv 0)]) rfl ?_
          refine fX7_uses_L122_s hX a1 _ ?_ fu 0 0 s19
          intro x16 s24
          refine s_iconst dX7_uses_153 ?_
          refine s_istore (lv' := [(7, iv 0), (0, rv B 328), (3, jv x16), (5, jv 0)]) dX7_uses_154 (by decide) rfl ?_
          refine s_sub [1, 2, 3, 0] (lv' := [(0, rv B 328), (3, jv x16), (5, jv 0), (7, iv 0)]) rfl ?_
          refine fX7_uses_L156_s hX x16 _ ?_ fu 0 0 s24
          intro x23 s30
          refine s_aload_n 0 dX7_uses_194 rfl rfl ?_
          refine s_iconst dX7_uses_195 ?_
          refine s_puti dX7_uses_196 ly7 ty7 fl_X7_119 kd_328 rfl po7_19 ⟨rfl, rfl, by decide⟩ (fun s31 => ?_)
          refine s_aload_n 0 dX7_uses_199 rfl rfl ?_
          refine s_lload 2 dX7_uses_200 rfl ?_
          refine s_Vv (rest := []) dX7_uses_202 lk_X7_211 meX7_tell (ctX7_tell B fu x23 s31) kd_328 ⟨rfl, by decide⟩ rfl rfl ⟨rfl, rfl, by decide, by decide⟩ (Nat.le_of_ble_eq_true rfl) (fun _ s32 => ?_)
          refine s_lload_n 1 dX7_uses_205 rfl rfl ?_
          refine s_l2i dX7_uses_206 ?_
          exact s_iret hX dX7_uses_207
        · refine s_bipush dX7_uses_37 (by decide) ?_
          exact s_iret hX dX7_uses_39
      · exact s_sub [] rfl (hj1 s4)
abbrev rmX7_centre : Room := { frames := 9, cells := 0, slots := 0, locals := 203 }
abbrev SX7_centre (B : Nat) (X : Ctx) := Sim cX7_centre RX7 12 rmX7_centre B X
set_option maxHeartbeats 4000000 in
set_option maxRecDepth 100000 in
theorem fX7_centre_L20_s {B fu : Nat} {X : Ctx} (hX : CxI .int B X) (c1 : Int) (k92 : Int → Int → Int → Mem → PR) (hk92 : ∀ (x6 : Int) (x7 : Int) (x8 : Int) (s11 : Mem), SX7_centre B X (k92 x6 x7 x8 s11) s11 92 [(0, rv B 328), (1, iv c1), (2, iv x6), (3, jv x7), (5, jv x8)] []) : ∀ (n : Nat) (x2 : Int) (x3 : Int) (x4 : Int) (x5 : Int) (s10 : Mem), SX7_centre B X (fX7_centre_L20 fu c1 k92 n x2 x3 x4 x5 s10) s10 20 [(0, rv B 328), (1, iv c1), (2, iv x2), (3, jv x3), (5, jv x4), (7, iv x5)] [] := by
  intro n
  induction n with
  | zero => intro _ _ _ _ _; exact s_none
  | succ n ih =>
    intro x2 x3 x4 x5 s2
    rw [fX7_centre_L20]
    refine s_iload 5 dX7_centre_20 rfl ?_
    refine s_bipush dX7_centre_22 (by decide) ?_
    refine s_icmp_ge (tgt := 92) dX7_centre_24 (by decide) ?_ ?_
    · exact s_sub [0, 1, 2, 3, 4] rfl (hk92 x2 x3 x4 s2)
    · refine s_aload_n 0 dX7_centre_27 rfl rfl ?_
      refine s_iload 5 dX7_centre_28 rfl ?_
      refine s_puti dX7_centre_30 ly7 ty7 fl_X7_197 kd_328 rfl po7_11 ⟨rfl, rfl, by decide⟩ (fun s3 => ?_)
      refine s_aload_n 0 dX7_centre_33 rfl rfl ?_
      refine s_Vl (rest := []) dX7_centre_34 lk_X7_315 meX7_before (ctX7_before B fu s3) kd_328 ⟨rfl, by decide⟩ rfl rfl ⟨rfl, rfl, by decide, by decide⟩ (Nat.le_of_ble_eq_true rfl) (fun x9 s4 => ?_)
      refine s_lstore (lv' := [(8, jv x9), (0, rv B 328), (1, iv c1), (2, iv x2), (3, jv x3), (5, jv x4), (7, iv x5)]) dX7_centre_37 (by decide) rfl ?_
      refine s_aload_n 1 dX7_centre_39 rfl rfl ?_
      refine s_Vl (rest := []) dX7_centre_40 lk_X7_275 meX7_strandedNow (ctX7_strandedNow B fu s4) kd_328 ⟨rfl, by decide⟩ rfl rfl ⟨rfl, rfl, by decide, by decide⟩ (Nat.le_of_ble_eq_true rfl) (fun x10 s5 => ?_)
      refine s_lstore (lv' := [(10, jv x10), (8, jv x9), (0, rv B 328), (1, iv c1), (2, iv x2), (3, jv x3), (5, jv x4), (7, iv x5)]) dX7_centre_43 (by decide) rfl ?_
      refine s_iload_n 4 dX7_centre_45 rfl rfl ?_
      refine s_iconst dX7_centre_46 ?_
      refine s_jn (fun (j1 : Int → Int → Int → Mem → PR) => ∀ (x11 : Int) (x12 : Int) (x13 : Int) (s9 : Mem), SX7_centre B X (j1 x11 x12 x13 s9) s9 86 [(0, rv B 328), (1, iv c1), (2, iv x11), (3, jv x12), (5, jv x13), (7, iv x5)] []) ?_ (fun j1 hj1 => ?_)
      · intro x11 x12 x13 s6
        refine s_iinc (lv' := [(7, iv (x5 + 1)), (0, rv B 328), (1, iv c1), (2, iv x11), (3, jv x12), (5, jv x13)]) 5 dX7_centre_86 rfl (by decide) rfl ?_
        refine s_goto (tgt := 20) dX7_centre_89 (by decide) ?_
        exact s_sub [1, 2, 3, 4, 5, 0] rfl (ih x11 x12 x13 (x5 + 1) s6)
      · refine s_jn (fun (j2 : Mem → PR) => ∀ (s8 : Mem), SX7_centre B X (j2 s8) s8 76 [(0, rv B 328), (1, iv c1), (7, iv x5), (8, jv x9), (10, jv x10)] []) ?_ (fun j2 hj2 => ?_)
        · intro s7
          refine s_iload 2 dX7_centre_76 rfl ?_
          refine s_istore_n (lv' := [(2, iv x5), (0, rv B 328), (1, iv c1), (7, iv x5), (8, jv x9), (10, jv x10)]) dX7_centre_78 rfl (by decide) rfl ?_
          refine s_lload 4 dX7_centre_79 rfl ?_
          refine s_lstore_n (lv' := [(3, jv x9), (2, iv x5), (0, rv B 328), (1, iv c1), (7, iv x5), (8, jv x9), (10, jv x10)]) dX7_centre_81 rfl (by decide) rfl ?_
          refine s_lload 6 dX7_centre_82 rfl ?_
          refine s_lstore (lv' := [(5, jv x10), (3, jv x9), (2, iv x5), (0, rv B 328), (1, iv c1), (7, iv x5), (8, jv x9), (10, jv x10)]) dX7_centre_84 (by decide) rfl ?_
          exact s_sub [3, 4, 2, 1, 0, 5] rfl (hj1 x5 x9 x10 s7)
        · refine s_icmp_eq (tgt := 76) dX7_centre_47 (by decide) ?_ ?_
          · exact s_sub [2, 3, 7, 1, 0] rfl (hj2 s5)
          · refine s_lload 0 dX7_centre_50 rfl ?_
            refine s_lload 6 dX7_centre_52 rfl ?_
            refine s_lif_gt (tgt := 86) dX7_centre_54 dX7_centre_55 (by decide) ?_ ?_
            · exact s_sub [2, 3, 4, 5, 6, 7] rfl (hj1 x2 x3 x4 s5)
            · refine s_lload 0 dX7_centre_58 rfl ?_
              refine s_lload 6 dX7_centre_60 rfl ?_
              refine s_lif_ne (tgt := 76) dX7_centre_62 dX7_centre_63 (by decide) ?_ ?_
              · exact s_sub [2, 3, 7, 1, 0] rfl (hj2 s5)
              · refine s_lload 1 dX7_centre_66 rfl ?_
                refine s_lload_n 5 dX7_centre_68 rfl rfl ?_
                refine s_lif_lt (tgt := 76) dX7_centre_69 dX7_centre_70 (by decide) ?_ ?_
                · exact s_sub [2, 3, 7, 1, 0] rfl (hj2 s5)
                · refine s_goto (tgt := 86) dX7_centre_73 (by decide) ?_
                  exact s_sub [2, 3, 4, 5, 6, 7] rfl (hj1 x2 x3 x4 s5)
set_option maxHeartbeats 4000000 in
set_option maxRecDepth 100000 in
theorem ctX7_centre (B fu : Nat) (σ : Mem) : CtI yX7_centre cX7_centre 12 (some .int) rmX7_centre B [rv B 328] σ (fX7_centre fu σ) := by
  refine ctI_intro (own := RX7) (lv := [(0, rv B 328)]) (by decide +kernel) rfl (Nat.le_of_ble_eq_true rfl) rfl (fun X hX => ?_)
  unfold fX7_centre
  refine s_aload_n 0 dX7_centre_0 rfl rfl ?_
  refine s_iconst dX7_centre_1 ?_
  refine s_puti dX7_centre_2 ly7 ty7 fl_X7_116 kd_328 rfl po7_20 ⟨rfl, rfl, by decide⟩ (fun s1 => ?_)
  refine s_aload_n 0 dX7_centre_5 rfl rfl ?_
  refine s_geti dX7_centre_6 ly7 fl_X7_197 kd_328 rfl ?_
  refine s_lti (fun x1 => ?_)
  refine s_istore_n (lv' := [(1, iv x1), (0, rv B 328)]) dX7_centre_9 rfl (by decide) rfl ?_
  refine s_iconst dX7_centre_10 ?_
  refine s_istore_n (lv' := [(2, iv (-1)), (1, iv x1), (0, rv B 328)]) dX7_centre_11 rfl (by decide) rfl ?_
  refine s_lconst (x := 0) dX7_centre_12 (by decide) ?_
  refine s_lstore_n (lv' := [(3, jv 0), (2, iv (-1)), (1, iv x1), (0, rv B 328)]) dX7_centre_13 rfl (by decide) rfl ?_
  refine s_lconst (x := 0) dX7_centre_14 (by decide) ?_
  refine s_lstore (lv' := [(5, jv 0), (3, jv 0), (2, iv (-1)), (1, iv x1), (0, rv B 328)]) dX7_centre_15 (by decide) rfl ?_
  refine s_iconst dX7_centre_17 ?_
  refine s_istore (lv' := [(7, iv 0), (5, jv 0), (3, jv 0), (2, iv (-1)), (1, iv x1), (0, rv B 328)]) dX7_centre_18 (by decide) rfl ?_
  refine s_sub [5, 4, 3, 2, 1, 0] (lv' := [(0, rv B 328), (1, iv x1), (2, iv (-1)), (3, jv 0), (5, jv 0), (7, iv 0)]) rfl ?_
  refine fX7_centre_L20_s hX x1 _ ?_ fu (-1) 0 0 0 s1
  intro x14 x15 x16 s12
  refine s_aload_n 0 dX7_centre_92 rfl rfl ?_
  refine s_iload_n 1 dX7_centre_93 rfl rfl ?_
  refine s_puti dX7_centre_94 ly7 ty7 fl_X7_197 kd_328 rfl po7_11 ⟨rfl, rfl, by decide⟩ (fun s13 => ?_)
  refine s_aload_n 0 dX7_centre_97 rfl rfl ?_
  refine s_iconst dX7_centre_98 ?_
  refine s_puti dX7_centre_99 ly7 ty7 fl_X7_119 kd_328 rfl po7_19 ⟨rfl, rfl, by decide⟩ (fun s14 => ?_)
  refine s_aload_n 0 dX7_centre_102 rfl rfl ?_
  refine s_lload_n 3 dX7_centre_103 rfl rfl ?_
  refine s_Vv (rest := []) dX7_centre_104 lk_X7_211 meX7_tell (ctX7_tell B fu x15 s14) kd_328 ⟨rfl, by decide⟩ rfl rfl ⟨rfl, rfl, by decide, by decide⟩ (Nat.le_of_ble_eq_true rfl) (fun _ s15 => ?_)
  refine s_aload_n 0 dX7_centre_107 rfl rfl ?_
  refine s_lload 4 dX7_centre_108 rfl ?_
  refine s_Vv (rest := []) dX7_centre_110 lk_X7_211 meX7_tell (ctX7_tell B fu x16 s15) kd_328 ⟨rfl, by decide⟩ rfl rfl ⟨rfl, rfl, by decide, by decide⟩ (Nat.le_of_ble_eq_true rfl) (fun _ s16 => ?_)
  refine s_iload_n 2 dX7_centre_113 rfl rfl ?_
  exact s_iret hX dX7_centre_114
abbrev rmX7_spare : Room := { frames := 9, cells := 0, slots := 0, locals := 203 }
abbrev SX7_spare (B : Nat) (X : Ctx) := Sim cX7_spare RX7 6 rmX7_spare B X
set_option maxHeartbeats 4000000 in
set_option maxRecDepth 100000 in
theorem fX7_spare_L26_s {B fu : Nat} {X : Ctx} (hX : CxI .int B X) (c1 : Int) (k104 : Int → Int → Mem → PR) (hk104 : ∀ (x6 : Int) (x7 : Int) (s15 : Mem), SX7_spare B X (k104 x6 x7 s15) s15 104 [(0, rv B 328), (3, iv x6), (4, iv x7)] []) : ∀ (n : Nat) (x3 : Int) (x4 : Int) (x5 : Int) (s14 : Mem), SX7_spare B X (fX7_spare_L26 fu c1 k104 n x3 x4 x5 s14) s14 26 [(0, rv B 328), (1, jv c1), (3, iv x3), (4, iv x4), (5, iv x5)] [] := by
  intro n
  induction n with
  | zero => intro _ _ _ _; exact s_none
  | succ n ih =>
    intro x3 x4 x5 s5
    rw [fX7_spare_L26]
    refine s_iload 4 dX7_spare_26 rfl ?_
    refine s_aload_n 0 dX7_spare_28 rfl rfl ?_
    refine s_geti dX7_spare_29 ly7 fl_X7_129 kd_328 rfl ?_
    refine s_icmp_ge (tgt := 104) dX7_spare_32 (by decide) ?_ ?_
    · exact s_sub [0, 2, 3] rfl (hk104 x3 x4 s5)
    · refine s_aload_n 0 dX7_spare_35 rfl rfl ?_
      refine s_getr (n := 8) (k' := 337) dX7_spare_36 ly7 fl_X7_35 kd_328 rfl rfl rfl ?_
      refine s_iload 4 dX7_spare_39 rfl ?_
      refine s_zald 12 dX7_spare_41 kd_337 (by decide) (fun x8 => ?_)
      refine s_jn (fun (j1 : Int → Int → Mem → PR) => ∀ (x9 : Int) (x10 : Int) (s13 : Mem), SX7_spare B X (j1 x9 x10 s13) s13 98 [(0, rv B 328), (1, jv c1), (3, iv x9), (4, iv x10), (5, iv x5)] []) ?_ (fun j1 hj1 => ?_)
      · intro x9 x10 s6
        refine s_iinc (lv' := [(5, iv (x5 + 1)), (0, rv B 328), (1, jv c1), (3, iv x9), (4, iv x10)]) 4 dX7_spare_98 rfl (by decide) rfl ?_
        refine s_goto (tgt := 26) dX7_spare_101 (by decide) ?_
        exact s_sub [1, 2, 3, 4, 0] rfl (ih x9 x10 (x5 + 1) s6)
      · refine s_if_eq (tgt := 48) dX7_spare_42 (by decide) ?_ ?_
        · refine s_aload_n 0 dX7_spare_48 rfl rfl ?_
          refine s_getr (n := 8) (k' := 337) dX7_spare_49 ly7 fl_X7_35 kd_328 rfl rfl rfl ?_
          refine s_iload 4 dX7_spare_52 rfl ?_
          refine s_iconst dX7_spare_54 ?_
          refine s_zast 12 dX7_spare_55 kd_337 (by decide) (fun s7 => ?_)
          refine s_aload_n 0 dX7_spare_56 rfl rfl ?_
          refine s_Vl (rest := []) dX7_spare_57 lk_X7_315 meX7_before (ctX7_before B fu s7) kd_328 ⟨rfl, by decide⟩ rfl rfl ⟨rfl, rfl, by decide, by decide⟩ (Nat.le_of_ble_eq_true rfl) (fun x11 s8 => ?_)
          refine s_aload_n 0 dX7_spare_60 rfl rfl ?_
          refine s_getl dX7_spare_61 ly7 fl_X7_310 kd_328 rfl ?_
          refine s_jn (fun (j2 : Mem → PR) => ∀ (s12 : Mem), SX7_spare B X (j2 s12) s12 90 [(0, rv B 328), (1, jv c1), (3, iv x3), (4, iv x4), (5, iv x5)] []) ?_ (fun j2 hj2 => ?_)
          · intro s9
            refine s_aload_n 0 dX7_spare_90 rfl rfl ?_
            refine s_getr (n := 8) (k' := 337) dX7_spare_91 ly7 fl_X7_35 kd_328 rfl rfl rfl ?_
            refine s_iload 4 dX7_spare_94 rfl ?_
            refine s_iconst dX7_spare_96 ?_
            refine s_zast 12 dX7_spare_97 kd_337 (by decide) (fun s10 => ?_)
            exact hj1 x3 x4 s10
          · refine s_lif_ne (tgt := 90) dX7_spare_64 dX7_spare_65 (by decide) ?_ ?_
            · exact hj2 s8
            · refine s_aload_n 0 dX7_spare_68 rfl rfl ?_
              refine s_Vl (rest := []) dX7_spare_69 lk_X7_275 meX7_strandedNow (ctX7_strandedNow B fu s8) kd_328 ⟨rfl, by decide⟩ rfl rfl ⟨rfl, rfl, by decide, by decide⟩ (Nat.le_of_ble_eq_true rfl) (fun x12 s11 => ?_)
              refine s_lload_n 1 dX7_spare_72 rfl rfl ?_
              refine s_lif_ne (tgt := 90) dX7_spare_73 dX7_spare_74 (by decide) ?_ ?_
              · exact hj2 s11
              · refine s_iload_n 2 dX7_spare_77 rfl rfl ?_
                refine s_iconst dX7_spare_78 ?_
                refine s_iload 4 dX7_spare_79 rfl ?_
                refine s_ishl dX7_spare_81 ?_
                refine s_ior dX7_spare_82 ?_
                refine s_lti (fun x13 => ?_)
                refine s_istore_n (lv' := [(3, iv x13), (0, rv B 328), (1, jv c1), (4, iv x4), (5, iv x5)]) dX7_spare_83 rfl (by decide) rfl ?_
                refine s_iinc (lv' := [(4, iv (x4 + 1)), (3, iv x13), (0, rv B 328), (1, jv c1), (5, iv x5)]) 3 dX7_spare_84 rfl (by decide) rfl ?_
                refine s_goto (tgt := 98) dX7_spare_87 (by decide) ?_
                exact s_sub [2, 3, 1, 0, 4] rfl (hj1 x13 (x4 + 1) s11)
        · refine s_goto (tgt := 98) dX7_spare_45 (by decide) ?_
          exact hj1 x3 x4 s5
set_option maxHeartbeats 4000000 in
set_option maxRecDepth 100000 in
theorem fX7_spare_L107_s {B fu : Nat} {X : Ctx} (hX : CxI .int B X) (c2 : Int) (c3 : Int) (k140 : Mem → PR) (hk140 : ∀ (s22 : Mem), SX7_spare B X (k140 s22) s22 140 [(0, rv B 328), (3, iv c2), (4, iv c3)] []) : ∀ (n : Nat) (x16 : Int) (s21 : Mem), SX7_spare B X (fX7_spare_L107 fu c2 c3 k140 n x16 s21) s21 107 [(0, rv B 328), (3, iv c2), (4, iv c3), (5, iv x16)] [] := by
  intro n
  induction n with
  | zero => intro _ _; exact s_none
  | succ n ih =>
    intro x16 s17
    rw [fX7_spare_L107]
    refine s_iload 3 dX7_spare_107 rfl ?_
    refine s_aload_n 0 dX7_spare_109 rfl rfl ?_
    refine s_geti dX7_spare_110 ly7 fl_X7_129 kd_328 rfl ?_
    refine s_icmp_ge (tgt := 140) dX7_spare_113 (by decide) ?_ ?_
    · exact s_sub [0, 1, 2] rfl (hk140 s17)
    · refine s_iload_n 1 dX7_spare_116 rfl rfl ?_
      refine s_iload 3 dX7_spare_117 rfl ?_
      refine s_ishr dX7_spare_119 ?_
      refine s_iconst dX7_spare_120 ?_
      refine s_iand dX7_spare_121 ?_
      refine s_iconst dX7_spare_122 ?_
      refine s_jn (fun (j3 : Mem → PR) => ∀ (s20 : Mem), SX7_spare B X (j3 s20) s20 134 [(0, rv B 328), (3, iv c2), (4, iv c3), (5, iv x16)] []) ?_ (fun j3 hj3 => ?_)
      · intro s18
        refine s_iinc (lv' := [(5, iv (x16 + 1)), (0, rv B 328), (3, iv c2), (4, iv c3)]) 3 dX7_spare_134 rfl (by decide) rfl ?_
        refine s_goto (tgt := 107) dX7_spare_137 (by decide) ?_
        exact s_sub [1, 2, 3, 0] rfl (ih (x16 + 1) s18)
      · refine s_icmp_ne (tgt := 134) dX7_spare_123 (by decide) ?_ ?_
        · exact hj3 s17
        · refine s_aload_n 0 dX7_spare_126 rfl rfl ?_
          refine s_getr (n := 8) (k' := 337) dX7_spare_127 ly7 fl_X7_35 kd_328 rfl rfl rfl ?_
          refine s_iload 3 dX7_spare_130 rfl ?_
          refine s_iconst dX7_spare_132 ?_
          refine s_zast 12 dX7_spare_133 kd_337 (by decide) (fun s19 => ?_)
          exact hj3 s19
set_option maxHeartbeats 4000000 in
set_option maxRecDepth 100000 in
theorem ctX7_spare (B fu : Nat) (σ : Mem) : CtI yX7_spare cX7_spare 6 (some .int) rmX7_spare B [rv B 328] σ (fX7_spare fu σ) := by
  refine ctI_intro (own := RX7) (lv := [(0, rv B 328)]) (by decide +kernel) rfl (Nat.le_of_ble_eq_true rfl) rfl (fun X hX => ?_)
  unfold fX7_spare
  refine s_aload_n 0 dX7_spare_0 rfl rfl ?_
  refine s_iconst dX7_spare_1 ?_
  refine s_puti dX7_spare_2 ly7 ty7 fl_X7_116 kd_328 rfl po7_20 ⟨rfl, rfl, by decide⟩ (fun s1 => ?_)
  refine s_aload_n 0 dX7_spare_5 rfl rfl ?_
  refine s_aload_n 0 dX7_spare_6 rfl rfl ?_
  refine s_Vl (rest := [rv B 328]) dX7_spare_7 lk_X7_315 meX7_before (ctX7_before B fu s1) kd_328 ⟨rfl, by decide⟩ rfl rfl ⟨rfl, rfl, by decide, by decide⟩ (Nat.le_of_ble_eq_true rfl) (fun x1 s2 => ?_)
  refine s_putl dX7_spare_10 ly7 ty7 fl_X7_310 kd_328 rfl po7_47 ⟨rfl, rfl, by decide⟩ (fun s3 => ?_)
  refine s_aload_n 0 dX7_spare_13 rfl rfl ?_
  refine s_Vl (rest := []) dX7_spare_14 lk_X7_275 meX7_strandedNow (ctX7_strandedNow B fu s3) kd_328 ⟨rfl, by decide⟩ rfl rfl ⟨rfl, rfl, by decide, by decide⟩ (Nat.le_of_ble_eq_true rfl) (fun x2 s4 => ?_)
  refine s_lstore_n (lv' := [(1, jv x2), (0, rv B 328)]) dX7_spare_17 rfl (by decide) rfl ?_
  refine s_iconst dX7_spare_18 ?_
  refine s_istore_n (lv' := [(3, iv 0), (1, jv x2), (0, rv B 328)]) dX7_spare_19 rfl (by decide) rfl ?_
  refine s_iconst dX7_spare_20 ?_
  refine s_istore (lv' := [(4, iv 0), (3, iv 0), (1, jv x2), (0, rv B 328)]) dX7_spare_21 (by decide) rfl ?_
  refine s_iconst dX7_spare_23 ?_
  refine s_istore (lv' := [(5, iv 0), (4, iv 0), (3, iv 0), (1, jv x2), (0, rv B 328)]) dX7_spare_24 (by decide) rfl ?_
  refine s_sub [4, 3, 2, 1, 0] (lv' := [(0, rv B 328), (1, jv x2), (3, iv 0), (4, iv 0), (5, iv 0)]) rfl ?_
  refine fX7_spare_L26_s hX x2 _ ?_ fu 0 0 0 s4
  intro x14 x15 s16
  refine s_iconst dX7_spare_104 ?_
  refine s_istore (lv' := [(5, iv 0), (0, rv B 328), (3, iv x14), (4, iv x15)]) dX7_spare_105 (by decide) rfl ?_
  refine s_sub [1, 2, 3, 0] (lv' := [(0, rv B 328), (3, iv x14), (4, iv x15), (5, iv 0)]) rfl ?_
  refine fX7_spare_L107_s hX x14 x15 _ ?_ fu 0 s16
  intro s23
  refine s_aload_n 0 dX7_spare_140 rfl rfl ?_
  refine s_iconst dX7_spare_141 ?_
  refine s_puti dX7_spare_142 ly7 ty7 fl_X7_119 kd_328 rfl po7_19 ⟨rfl, rfl, by decide⟩ (fun s24 => ?_)
  refine s_aload_n 0 dX7_spare_145 rfl rfl ?_
  refine s_iload 2 dX7_spare_146 rfl ?_
  refine s_i2l dX7_spare_148 ?_
  refine s_Vv (rest := []) dX7_spare_149 lk_X7_211 meX7_tell (ctX7_tell B fu (w32 x15) s24) kd_328 ⟨rfl, by decide⟩ rfl rfl ⟨rfl, rfl, by decide, by decide⟩ (Nat.le_of_ble_eq_true rfl) (fun _ s25 => ?_)
  refine s_iload_n 1 dX7_spare_152 rfl rfl ?_
  exact s_iret hX dX7_spare_153
abbrev rmX7_offset : Room := { frames := 2, cells := 0, slots := 0, locals := 46 }
abbrev SX7_offset (B : Nat) (X : Ctx) := Sim cX7_offset RX7 4 rmX7_offset B X
set_option maxHeartbeats 4000000 in
set_option maxRecDepth 100000 in
theorem ctX7_offset (B fu : Nat) (a0 : Int) (a1 : Int) (σ : Mem) : CtI yX7_offset cX7_offset 4 (some .int) rmX7_offset B [rv B 328, iv a0, iv a1] σ (fX7_offset fu a0 a1 σ) := by
  refine ctI_intro (own := RX7) (lv := [(0, rv B 328), (1, iv a0), (2, iv a1)]) (by decide +kernel) rfl (Nat.le_of_ble_eq_true rfl) rfl (fun X hX => ?_)
  unfold fX7_offset
  refine s_aload_n 0 dX7_offset_0 rfl rfl ?_
  refine s_iconst dX7_offset_1 ?_
  refine s_puti dX7_offset_2 ly7 ty7 fl_X7_116 kd_328 rfl po7_20 ⟨rfl, rfl, by decide⟩ (fun s1 => ?_)
  refine s_aload_n 0 dX7_offset_5 rfl rfl ?_
  refine s_iload_n 1 dX7_offset_6 rfl rfl ?_
  refine s_Vi (rest := []) dX7_offset_7 lk_X7_134 meX7_isLine (ctX7_isLine B fu a0 s1) kd_328 ⟨rfl, by decide⟩ rfl rfl ⟨rfl, rfl, by decide, by decide⟩ (Nat.le_of_ble_eq_true rfl) (fun x1 s2 => ?_)
  refine s_jn (fun (j1 : Mem → PR) => ∀ (s6 : Mem), SX7_offset B X (j1 s6) s6 25 [] []) ?_ (fun j1 hj1 => ?_)
  · intro s3
    refine s_iconst dX7_offset_25 ?_
    exact s_iret hX dX7_offset_26
  · refine s_if_eq (tgt := 25) dX7_offset_10 (by decide) ?_ ?_
    · exact s_sub [] rfl (hj1 s2)
    · refine s_iload_n 2 dX7_offset_13 rfl rfl ?_
      refine s_i2l dX7_offset_14 ?_
      refine s_lconst (x := 0) dX7_offset_15 (by decide) ?_
      refine s_ldc2 (x := 59) dX7_offset_16 cl_X7_323 (by decide) ?_
      refine s_Si (rest := []) dX7_offset_19 lk_X7_125 meX7_in (ctX7_in B fu (w32 a1) 0 59 s2) rfl rfl ⟨rfl, rfl, by decide, by decide⟩ (Nat.le_of_ble_eq_true rfl) (fun x2 s4 => ?_)
      refine s_if_ne (tgt := 27) dX7_offset_22 (by decide) ?_ ?_
      · refine s_aload_n 0 dX7_offset_27 rfl rfl ?_
        refine s_getr (n := 7) (k' := 336) dX7_offset_28 ly7 fl_X7_32 kd_328 rfl rfl rfl ?_
        refine s_iload_n 1 dX7_offset_31 rfl rfl ?_
        refine s_iald 12 dX7_offset_32 kd_336 (by decide) (fun x3 => ?_)
        refine s_istore_n (lv' := [(3, iv x3), (0, rv B 328), (1, iv a0), (2, iv a1)]) dX7_offset_33 rfl (by decide) rfl ?_
        refine s_aload_n 1 dX7_offset_34 rfl rfl ?_
        refine s_getr (n := 7) (k' := 336) dX7_offset_35 ly7 fl_X7_32 kd_328 rfl rfl rfl ?_
        refine s_iload_n 2 dX7_offset_38 rfl rfl ?_
        refine s_iload_n 3 dX7_offset_39 rfl rfl ?_
        refine s_iast 12 dX7_offset_40 kd_336 (by decide) (fun s5 => ?_)
        refine s_iload_n 0 dX7_offset_41 rfl rfl ?_
        exact s_iret hX dX7_offset_42
      · exact s_sub [] rfl (hj1 s4)
abbrev rmX7_comesAt : Room := { frames := 2, cells := 0, slots := 0, locals := 43 }
abbrev SX7_comesAt (B : Nat) (X : Ctx) := Sim cX7_comesAt RX7 11 rmX7_comesAt B X
set_option maxHeartbeats 4000000 in
set_option maxRecDepth 100000 in
theorem fX7_comesAt_L16_s {B fu : Nat} {X : Ctx} (hX : CxL B X) (c1 : Int) (c2 : Int) (c3 : Int) (k40 : Int → Mem → PR) (hk40 : ∀ (x5 : Int) (s4 : Mem), SX7_comesAt B X (k40 x5 s4) s4 40 [(0, rv B 328), (1, iv c1), (3, jv c3), (5, jv x5)] []) : ∀ (n : Nat) (x3 : Int) (x4 : Int) (s3 : Mem), SX7_comesAt B X (fX7_comesAt_L16 fu c1 c2 c3 k40 n x3 x4 s3) s3 16 [(0, rv B 328), (1, iv c1), (2, iv c2), (3, jv c3), (5, jv x3), (7, iv x4)] [] := by
  intro n
  induction n with
  | zero => intro _ _ _; exact s_none
  | succ n ih =>
    intro x3 x4 s1
    rw [fX7_comesAt_L16]
    refine s_iload 5 dX7_comesAt_16 rfl ?_
    refine s_iload_n 2 dX7_comesAt_18 rfl rfl ?_
    refine s_icmp_ge (tgt := 40) dX7_comesAt_19 (by decide) ?_ ?_
    · exact s_sub [0, 1, 3, 4] rfl (hk40 x3 s1)
    · refine s_lload 4 dX7_comesAt_22 rfl ?_
      refine s_aload_n 0 dX7_comesAt_24 rfl rfl ?_
      refine s_iload_n 1 dX7_comesAt_25 rfl rfl ?_
      refine s_iload 5 dX7_comesAt_26 rfl ?_
      refine s_Vl (rest := [jv x3]) dX7_comesAt_28 lk_X7_217 meX7_time (ctX7_time B fu c1 x4 s1) kd_328 ⟨rfl, by decide⟩ rfl rfl ⟨rfl, rfl, by decide, by decide⟩ (Nat.le_of_ble_eq_true rfl) (fun x6 s2 => ?_)
      refine s_ladd dX7_comesAt_31 ?_
      refine s_ltl (fun x7 => ?_)
      refine s_lstore (lv' := [(5, jv x7), (0, rv B 328), (1, iv c1), (2, iv c2), (3, jv c3), (7, iv x4)]) dX7_comesAt_32 (by decide) rfl ?_
      refine s_iinc (lv' := [(7, iv (x4 + 1)), (5, jv x7), (0, rv B 328), (1, iv c1), (2, iv c2), (3, jv c3)]) 5 dX7_comesAt_34 rfl (by decide) rfl ?_
      refine s_goto (tgt := 16) dX7_comesAt_37 (by decide) ?_
      exact s_sub [2, 3, 4, 5, 1, 0] rfl (ih x7 (x4 + 1) s2)
set_option maxHeartbeats 4000000 in
set_option maxRecDepth 100000 in
theorem ctX7_comesAt (B fu : Nat) (a0 : Int) (a1 : Int) (a2 : Int) (σ : Mem) : CtL yX7_comesAt cX7_comesAt 11 (some .long) rmX7_comesAt B [rv B 328, iv a0, iv a1, jv a2] σ (fX7_comesAt fu a0 a1 a2 σ) := by
  refine ctL_intro (own := RX7) (lv := [(0, rv B 328), (1, iv a0), (2, iv a1), (3, jv a2)]) (by decide +kernel) rfl (Nat.le_of_ble_eq_true rfl) rfl (fun X hX => ?_)
  unfold fX7_comesAt
  refine s_ldc2 (x := 100) dX7_comesAt_0 cl_X7_195 (by decide) ?_
  refine s_aload_n 0 dX7_comesAt_3 rfl rfl ?_
  refine s_getr (n := 7) (k' := 336) dX7_comesAt_4 ly7 fl_X7_32 kd_328 rfl rfl rfl ?_
  refine s_iload_n 1 dX7_comesAt_7 rfl rfl ?_
  refine s_iald 12 dX7_comesAt_8 kd_336 (by decide) (fun x1 => ?_)
  refine s_i2l dX7_comesAt_9 ?_
  refine s_lmul dX7_comesAt_10 ?_
  refine s_ltl (fun x2 => ?_)
  refine s_lstore (lv' := [(5, jv x2), (0, rv B 328), (1, iv a0), (2, iv a1), (3, jv a2)]) dX7_comesAt_11 (by decide) rfl ?_
  refine s_iconst dX7_comesAt_13 ?_
  refine s_istore (lv' := [(7, iv 0), (5, jv x2), (0, rv B 328), (1, iv a0), (2, iv a1), (3, jv a2)]) dX7_comesAt_14 (by decide) rfl ?_
  refine s_sub [2, 3, 4, 5, 1, 0] (lv' := [(0, rv B 328), (1, iv a0), (2, iv a1), (3, jv a2), (5, jv x2), (7, iv 0)]) rfl ?_
  refine fX7_comesAt_L16_s hX a0 a1 a2 _ ?_ fu x2 0 σ
  intro x8 s5
  refine s_lload 3 dX7_comesAt_40 rfl ?_
  refine s_lload_n 2 dX7_comesAt_42 rfl rfl ?_
  refine s_lif_lt (tgt := 50) dX7_comesAt_43 dX7_comesAt_44 (by decide) ?_ ?_
  · refine s_lload_n 2 dX7_comesAt_50 rfl rfl ?_
    refine s_lload 3 dX7_comesAt_51 rfl ?_
    refine s_lsub dX7_comesAt_53 ?_
    refine s_ltl (fun x9 => ?_)
    refine s_lstore (lv' := [(7, jv x9), (0, rv B 328), (1, iv a0), (3, jv a2), (5, jv x8)]) dX7_comesAt_54 (by decide) rfl ?_
    refine s_lload 0 dX7_comesAt_56 rfl ?_
    refine s_aload_n 1 dX7_comesAt_58 rfl rfl ?_
    refine s_getr (n := 0) (k' := 329) dX7_comesAt_59 ly7 fl_X7_9 kd_328 rfl rfl rfl ?_
    refine s_iload_n 2 dX7_comesAt_62 rfl rfl ?_
    refine s_iald 12 dX7_comesAt_63 kd_329 (by decide) (fun x10 => ?_)
    refine s_i2l dX7_comesAt_64 ?_
    refine s_lmul dX7_comesAt_65 ?_
    refine s_ldc2 (x := 5999) dX7_comesAt_66 cl_X7_330 (by decide) ?_
    refine s_ladd dX7_comesAt_69 ?_
    refine s_ldc2 (x := 6000) dX7_comesAt_70 cl_X7_332 (by decide) ?_
    refine s_ldiv dX7_comesAt_73 ?_
    refine s_ltl (fun x11 => ?_)
    refine s_lstore (lv' := [(9, jv x11), (7, jv x9), (0, rv B 328), (1, iv a0), (3, jv a2), (5, jv x8)]) dX7_comesAt_74 (by decide) rfl ?_
    refine s_lload 5 dX7_comesAt_76 rfl ?_
    refine s_ldc2 (x := 6000) dX7_comesAt_78 cl_X7_332 (by decide) ?_
    refine s_lload 0 dX7_comesAt_81 rfl ?_
    refine s_lmul dX7_comesAt_83 ?_
    refine s_aload_n 2 dX7_comesAt_84 rfl rfl ?_
    refine s_getr (n := 0) (k' := 329) dX7_comesAt_85 ly7 fl_X7_9 kd_328 rfl rfl rfl ?_
    refine s_iload_n 3 dX7_comesAt_88 rfl rfl ?_
    refine s_iald 12 dX7_comesAt_89 kd_329 (by decide) (fun x12 => ?_)
    refine s_i2l dX7_comesAt_90 ?_
    refine s_ldiv dX7_comesAt_91 ?_
    refine s_ladd dX7_comesAt_92 ?_
    exact s_lret hX dX7_comesAt_93
  · refine s_lload 3 dX7_comesAt_47 rfl ?_
    exact s_lret hX dX7_comesAt_49
abbrev rmX7_comes : Room := { frames := 3, cells := 0, slots := 0, locals := 73 }
abbrev SX7_comes (B : Nat) (X : Ctx) := Sim cX7_comes RX7 4 rmX7_comes B X
set_option maxHeartbeats 4000000 in
set_option maxRecDepth 100000 in
theorem ctX7_comes (B fu : Nat) (a0 : Int) (a1 : Int) (a2 : Int) (σ : Mem) : CtI yX7_comes cX7_comes 4 (some .int) rmX7_comes B [rv B 328, iv a0, iv a1, iv a2] σ (fX7_comes fu a0 a1 a2 σ) := by
  refine ctI_intro (own := RX7) (lv := [(0, rv B 328), (1, iv a0), (2, iv a1), (3, iv a2)]) (by decide +kernel) rfl (Nat.le_of_ble_eq_true rfl) rfl (fun X hX => ?_)
  unfold fX7_comes
  refine s_aload_n 0 dX7_comes_0 rfl rfl ?_
  refine s_iconst dX7_comes_1 ?_
  refine s_puti dX7_comes_2 ly7 ty7 fl_X7_116 kd_328 rfl po7_20 ⟨rfl, rfl, by decide⟩ (fun s1 => ?_)
  refine s_aload_n 0 dX7_comes_5 rfl rfl ?_
  refine s_iload_n 1 dX7_comes_6 rfl rfl ?_
  refine s_iload_n 2 dX7_comes_7 rfl rfl ?_
  refine s_Vi (rest := []) dX7_comes_8 lk_X7_207 meX7_isHalt (ctX7_isHalt B fu a0 a1 s1) kd_328 ⟨rfl, by decide⟩ rfl rfl ⟨rfl, rfl, by decide, by decide⟩ (Nat.le_of_ble_eq_true rfl) (fun x1 s2 => ?_)
  refine s_jn (fun (j1 : Int → Mem → PR) => ∀ (x2 : Int) (s8 : Mem), SX7_comes B X (j1 x2 s8) s8 39 [] [iv x2]) ?_ (fun j1 hj1 => ?_)
  · intro x2 s3
    exact s_iret hX dX7_comes_39
  · refine s_jn (fun (j2 : Mem → PR) => ∀ (s7 : Mem), SX7_comes B X (j2 s7) s7 38 [] []) ?_ (fun j2 hj2 => ?_)
    · intro s4
      refine s_iconst dX7_comes_38 ?_
      exact hj1 (-1) s4
    · refine s_if_eq (tgt := 38) dX7_comes_11 (by decide) ?_ ?_
      · exact s_sub [] rfl (hj2 s2)
      · refine s_iload_n 3 dX7_comes_14 rfl rfl ?_
        refine s_i2l dX7_comes_15 ?_
        refine s_lconst (x := 0) dX7_comes_16 (by decide) ?_
        refine s_ldc2 (x := 100000) dX7_comes_17 cl_X7_297 (by decide) ?_
        refine s_Si (rest := []) dX7_comes_20 lk_X7_125 meX7_in (ctX7_in B fu (w32 a2) 0 100000 s2) rfl rfl ⟨rfl, rfl, by decide, by decide⟩ (Nat.le_of_ble_eq_true rfl) (fun x3 s5 => ?_)
        refine s_if_eq (tgt := 38) dX7_comes_23 (by decide) ?_ ?_
        · exact s_sub [] rfl (hj2 s5)
        · refine s_aload_n 0 dX7_comes_26 rfl rfl ?_
          refine s_iload_n 1 dX7_comes_27 rfl rfl ?_
          refine s_iload_n 2 dX7_comes_28 rfl rfl ?_
          refine s_iload_n 3 dX7_comes_29 rfl rfl ?_
          refine s_i2l dX7_comes_30 ?_
          refine s_Vl (rest := []) dX7_comes_31 lk_X7_334 meX7_comesAt (ctX7_comesAt B fu a0 a1 (w32 a2) s5) kd_328 ⟨rfl, by decide⟩ rfl rfl ⟨rfl, rfl, by decide, by decide⟩ (Nat.le_of_ble_eq_true rfl) (fun x4 s6 => ?_)
          refine s_l2i dX7_comes_34 ?_
          refine s_goto (tgt := 39) dX7_comes_35 (by decide) ?_
          exact s_sub [] rfl (hj1 x4 s6)
abbrev rmX7_goes : Room := { frames := 3, cells := 0, slots := 0, locals := 73 }
abbrev SX7_goes (B : Nat) (X : Ctx) := Sim cX7_goes RX7 15 rmX7_goes B X
set_option maxHeartbeats 4000000 in
set_option maxRecDepth 100000 in
theorem fX7_goes_L29_s {B fu : Nat} {X : Ctx} (hX : CxL B X) (c3 : Int) (c4 : Int) (c5 : Int) (c6 : Int) (k105 : Int → Int → Mem → PR) (hk105 : ∀ (x7 : Int) (x8 : Int) (s11 : Mem), SX7_goes B X (k105 x7 x8 s11) s11 105 [(0, rv B 328), (2, jv c3), (4, iv c4), (7, iv c6), (8, iv x7), (9, jv x8)] []) : ∀ (n : Nat) (x4 : Int) (x5 : Int) (x6 : Int) (s10 : Mem), SX7_goes B X (fX7_goes_L29 fu c3 c4 c5 c6 k105 n x4 x5 x6 s10) s10 29 [(0, rv B 328), (2, jv c3), (4, iv c4), (5, jv c5), (7, iv c6), (8, iv x4), (9, jv x5), (11, iv x6)] [] := by
  intro n
  induction n with
  | zero => intro _ _ _ _; exact s_none
  | succ n ih =>
    intro x4 x5 x6 s3
    rw [fX7_goes_L29]
    refine s_iload 7 dX7_goes_29 rfl ?_
    refine s_aload_n 0 dX7_goes_31 rfl rfl ?_
    refine s_getr (n := 23) (k' := 352) dX7_goes_32 ly7 fl_X7_86 kd_328 rfl rfl rfl ?_
    refine s_iload 4 dX7_goes_35 rfl ?_
    refine s_iald 10 dX7_goes_37 kd_352 (by decide) (fun x9 => ?_)
    refine s_icmp_ge (tgt := 105) dX7_goes_38 (by decide) ?_ ?_
    · exact s_sub [0, 1, 2, 4, 5, 6] rfl (hk105 x4 x5 s3)
    · refine s_aload_n 0 dX7_goes_41 rfl rfl ?_
      refine s_getr (n := 22) (k' := 351) dX7_goes_42 ly7 fl_X7_83 kd_328 rfl rfl rfl ?_
      refine s_bipush dX7_goes_45 (by decide) ?_
      refine s_iload 4 dX7_goes_47 rfl ?_
      refine s_imul dX7_goes_49 ?_
      refine s_iload 7 dX7_goes_50 rfl ?_
      refine s_iadd dX7_goes_52 ?_
      refine s_iald 120 dX7_goes_53 kd_351 (by decide) (fun x10 => ?_)
      refine s_istore (lv' := [(12, iv x10), (0, rv B 328), (2, jv c3), (4, iv c4), (5, jv c5), (7, iv c6), (8, iv x4), (9, jv x5), (11, iv x6)]) dX7_goes_54 (by decide) rfl ?_
      refine s_aload_n 1 dX7_goes_56 rfl rfl ?_
      refine s_iload 0 dX7_goes_57 rfl ?_
      refine s_aload_n 1 dX7_goes_59 rfl rfl ?_
      refine s_iload 0 dX7_goes_60 rfl ?_
      refine s_iload 5 dX7_goes_62 rfl ?_
      refine s_Vi (rest := [iv x10, rv B 328]) dX7_goes_64 lk_X7_224 meX7_placeOf (ctX7_placeOf B fu x10 c6 s3) kd_328 ⟨rfl, by decide⟩ rfl rfl ⟨rfl, rfl, by decide, by decide⟩ (Nat.le_of_ble_eq_true rfl) (fun x11 s4 => ?_)
      refine s_lload 4 dX7_goes_67 rfl ?_
      refine s_Vl (rest := []) dX7_goes_69 lk_X7_334 meX7_comesAt (ctX7_comesAt B fu x10 x11 c5 s4) kd_328 ⟨rfl, by decide⟩ rfl rfl ⟨rfl, rfl, by decide, by decide⟩ (Nat.le_of_ble_eq_true rfl) (fun x12 s5 => ?_)
      refine s_lstore (lv' := [(13, jv x12), (12, iv x10), (0, rv B 328), (2, jv c3), (4, iv c4), (5, jv c5), (7, iv c6), (8, iv x4), (9, jv x5), (11, iv x6)]) dX7_goes_72 (by decide) rfl ?_
      refine s_iload 7 dX7_goes_74 rfl ?_
      refine s_iconst dX7_goes_76 ?_
      refine s_jn (fun (j1 : Int → Int → Mem → PR) => ∀ (x13 : Int) (x14 : Int) (s9 : Mem), SX7_goes B X (j1 x13 x14 s9) s9 99 [(0, rv B 328), (2, jv c3), (4, iv c4), (5, jv c5), (7, iv c6), (8, iv x13), (9, jv x14), (11, iv x6)] []) ?_ (fun j1 hj1 => ?_)
      · intro x13 x14 s6
        refine s_iinc (lv' := [(11, iv (x6 + 1)), (0, rv B 328), (2, jv c3), (4, iv c4), (5, jv c5), (7, iv c6), (8, iv x13), (9, jv x14)]) 7 dX7_goes_99 rfl (by decide) rfl ?_
        refine s_goto (tgt := 29) dX7_goes_102 (by decide) ?_
        exact s_sub [1, 2, 3, 4, 5, 6, 7, 0] rfl (ih x13 x14 (x6 + 1) s6)
      · refine s_jn (fun (j2 : Mem → PR) => ∀ (s8 : Mem), SX7_goes B X (j2 s8) s8 91 [(0, rv B 328), (2, jv c3), (4, iv c4), (5, jv c5), (7, iv c6), (11, iv x6), (12, iv x10), (13, jv x12)] []) ?_ (fun j2 hj2 => ?_)
        · intro s7
          refine s_iload 6 dX7_goes_91 rfl ?_
          refine s_istore (lv' := [(8, iv x10), (0, rv B 328), (2, jv c3), (4, iv c4), (5, jv c5), (7, iv c6), (11, iv x6), (12, iv x10), (13, jv x12)]) dX7_goes_93 (by decide) rfl ?_
          refine s_lload 8 dX7_goes_95 rfl ?_
          refine s_lstore (lv' := [(9, jv x12), (8, iv x10), (0, rv B 328), (2, jv c3), (4, iv c4), (5, jv c5), (7, iv c6), (11, iv x6), (12, iv x10), (13, jv x12)]) dX7_goes_97 (by decide) rfl ?_
          exact s_sub [2, 3, 4, 5, 6, 1, 0, 7] rfl (hj1 x10 x12 s7)
        · refine s_icmp_eq (tgt := 91) dX7_goes_77 (by decide) ?_ ?_
          · exact s_sub [2, 3, 4, 5, 6, 9, 1, 0] rfl (hj2 s5)
          · refine s_lload 0 dX7_goes_80 rfl ?_
            refine s_lload 8 dX7_goes_82 rfl ?_
            refine s_lif_lt (tgt := 91) dX7_goes_84 dX7_goes_85 (by decide) ?_ ?_
            · exact s_sub [2, 3, 4, 5, 6, 9, 1, 0] rfl (hj2 s5)
            · refine s_goto (tgt := 99) dX7_goes_88 (by decide) ?_
              exact s_sub [2, 3, 4, 5, 6, 7, 8, 9] rfl (hj1 x4 x5 s5)
set_option maxHeartbeats 4000000 in
set_option maxRecDepth 100000 in
theorem fX7_goes_L133_s {B fu : Nat} {X : Ctx} (hX : CxL B X) (c7 : Int) (c8 : Int) (c9 : Int) (c10 : Int) (k159 : Int → Mem → PR) (hk159 : ∀ (x21 : Int) (s18 : Mem), SX7_goes B X (k159 x21 s18) s18 159 [(0, rv B 328), (2, jv c7), (4, iv c8), (5, jv x21), (8, iv c9), (12, iv c10)] []) : ∀ (n : Nat) (x19 : Int) (x20 : Int) (s17 : Mem), SX7_goes B X (fX7_goes_L133 fu c7 c8 c9 c10 k159 n x19 x20 s17) s17 133 [(0, rv B 328), (2, jv c7), (4, iv c8), (5, jv x19), (8, iv c9), (12, iv c10), (13, iv x20)] [] := by
  intro n
  induction n with
  | zero => intro _ _ _; exact s_none
  | succ n ih =>
    intro x19 x20 s15
    rw [fX7_goes_L133]
    refine s_iload 6 dX7_goes_133 rfl ?_
    refine s_iload 5 dX7_goes_135 rfl ?_
    refine s_icmp_ge (tgt := 159) dX7_goes_137 (by decide) ?_ ?_
    · exact s_sub [0, 1, 2, 3, 4, 5] rfl (hk159 x19 s15)
    · refine s_lload 3 dX7_goes_140 rfl ?_
      refine s_aload_n 0 dX7_goes_142 rfl rfl ?_
      refine s_iload 4 dX7_goes_143 rfl ?_
      refine s_iload 6 dX7_goes_145 rfl ?_
      refine s_Vl (rest := [jv x19]) dX7_goes_147 lk_X7_217 meX7_time (ctX7_time B fu c9 x20 s15) kd_328 ⟨rfl, by decide⟩ rfl rfl ⟨rfl, rfl, by decide, by decide⟩ (Nat.le_of_ble_eq_true rfl) (fun x22 s16 => ?_)
      refine s_ladd dX7_goes_150 ?_
      refine s_ltl (fun x23 => ?_)
      refine s_lstore (lv' := [(5, jv x23), (0, rv B 328), (2, jv c7), (4, iv c8), (8, iv c9), (12, iv c10), (13, iv x20)]) dX7_goes_151 (by decide) rfl ?_
      refine s_iinc (lv' := [(13, iv (x20 + 1)), (5, jv x23), (0, rv B 328), (2, jv c7), (4, iv c8), (8, iv c9), (12, iv c10)]) 6 dX7_goes_153 rfl (by decide) rfl ?_
      refine s_goto (tgt := 133) dX7_goes_156 (by decide) ?_
      exact s_sub [2, 3, 4, 1, 5, 6, 0] rfl (ih x23 (x20 + 1) s16)
set_option maxHeartbeats 4000000 in
set_option maxRecDepth 100000 in
theorem fX7_goes_L11_s {B fu : Nat} {X : Ctx} (hX : CxL B X) (c1 : Int) (c2 : Int) (k214 : Int → Mem → PR) (hk214 : ∀ (x3 : Int) (s27 : Mem), SX7_goes B X (k214 x3 s27) s27 214 [(2, jv c1), (5, jv x3)] []) : ∀ (n : Nat) (x1 : Int) (x2 : Int) (s26 : Mem), SX7_goes B X (fX7_goes_L11 fu c1 c2 k214 n x1 x2 s26) s26 11 [(0, rv B 328), (2, jv c1), (4, iv c2), (5, jv x1), (7, iv x2)] [] := by
  intro n
  induction n with
  | zero => intro _ _ _; exact s_none
  | succ n ih =>
    intro x1 x2 s2
    rw [fX7_goes_L11]
    refine s_iload 4 dX7_goes_11 rfl ?_
    refine s_aload_n 0 dX7_goes_13 rfl rfl ?_
    refine s_geti dX7_goes_14 ly7 fl_X7_197 kd_328 rfl ?_
    refine s_icmp_eq (tgt := 214) dX7_goes_17 (by decide) ?_ ?_
    · exact s_sub [1, 3] rfl (hk214 x1 s2)
    · refine s_iconst dX7_goes_20 ?_
      refine s_istore (lv' := [(8, iv (-1)), (0, rv B 328), (2, jv c1), (4, iv c2), (5, jv x1), (7, iv x2)]) dX7_goes_21 (by decide) rfl ?_
      refine s_lconst (x := 0) dX7_goes_23 (by decide) ?_
      refine s_lstore (lv' := [(9, jv 0), (8, iv (-1)), (0, rv B 328), (2, jv c1), (4, iv c2), (5, jv x1), (7, iv x2)]) dX7_goes_24 (by decide) rfl ?_
      refine s_iconst dX7_goes_26 ?_
      refine s_istore (lv' := [(11, iv 0), (9, jv 0), (8, iv (-1)), (0, rv B 328), (2, jv c1), (4, iv c2), (5, jv x1), (7, iv x2)]) dX7_goes_27 (by decide) rfl ?_
      refine s_sub [3, 4, 5, 6, 7, 2, 1, 0] (lv' := [(0, rv B 328), (2, jv c1), (4, iv c2), (5, jv x1), (7, iv x2), (8, iv (-1)), (9, jv 0), (11, iv 0)]) rfl ?_
      refine fX7_goes_L29_s hX c1 c2 x1 x2 _ ?_ fu (-1) 0 0 s2
      intro x15 x16 s12
      refine s_aload_n 0 dX7_goes_105 rfl rfl ?_
      refine s_iload 4 dX7_goes_106 rfl ?_
      refine s_iload 3 dX7_goes_108 rfl ?_
      refine s_Vi (rest := []) dX7_goes_110 lk_X7_224 meX7_placeOf (ctX7_placeOf B fu x15 x2 s12) kd_328 ⟨rfl, by decide⟩ rfl rfl ⟨rfl, rfl, by decide, by decide⟩ (Nat.le_of_ble_eq_true rfl) (fun x17 s13 => ?_)
      refine s_istore (lv' := [(11, iv x17), (0, rv B 328), (2, jv c1), (4, iv c2), (7, iv x2), (8, iv x15), (9, jv x16)]) dX7_goes_113 (by decide) rfl ?_
      refine s_aload_n 1 dX7_goes_115 rfl rfl ?_
      refine s_iload 5 dX7_goes_116 rfl ?_
      refine s_iload 0 dX7_goes_118 rfl ?_
      refine s_Vi (rest := []) dX7_goes_120 lk_X7_266 meX7_leaves (ctX7_leaves B fu x15 x17 s13) kd_328 ⟨rfl, by decide⟩ rfl rfl ⟨rfl, rfl, by decide, by decide⟩ (Nat.le_of_ble_eq_true rfl) (fun x18 s14 => ?_)
      refine s_istore (lv' := [(12, iv x18), (11, iv x17), (0, rv B 328), (2, jv c1), (4, iv c2), (7, iv x2), (8, iv x15), (9, jv x16)]) dX7_goes_123 (by decide) rfl ?_
      refine s_lload 7 dX7_goes_125 rfl ?_
      refine s_lstore (lv' := [(5, jv x16), (12, iv x18), (11, iv x17), (0, rv B 328), (2, jv c1), (4, iv c2), (7, iv x2), (8, iv x15), (9, jv x16)]) dX7_goes_127 (by decide) rfl ?_
      refine s_iload 2 dX7_goes_129 rfl ?_
      refine s_istore (lv' := [(13, iv x17), (5, jv x16), (12, iv x18), (11, iv x17), (0, rv B 328), (2, jv c1), (4, iv c2), (7, iv x2), (8, iv x15), (9, jv x16)]) dX7_goes_131 (by decide) rfl ?_
      refine s_sub [4, 5, 6, 1, 8, 2, 0] (lv' := [(0, rv B 328), (2, jv c1), (4, iv c2), (5, jv x16), (8, iv x15), (12, iv x18), (13, iv x17)]) rfl ?_
      refine fX7_goes_L133_s hX c1 c2 x15 x18 _ ?_ fu x16 x17 s14
      intro x24 s19
      refine s_aload_n 0 dX7_goes_159 rfl rfl ?_
      refine s_getr (n := 2) (k' := 331) dX7_goes_160 ly7 fl_X7_16 kd_328 rfl rfl rfl ?_
      refine s_iload 4 dX7_goes_163 rfl ?_
      refine s_iload 5 dX7_goes_165 rfl ?_
      refine s_Si (rest := [rv B 331]) dX7_goes_167 lk_X7_165 meX7_at (ctX7_at B fu x15 x18 s19) rfl rfl ⟨rfl, rfl, by decide, by decide⟩ (Nat.le_of_ble_eq_true rfl) (fun x25 s20 => ?_)
      refine s_iald 96 dX7_goes_170 kd_331 (by decide) (fun x26 => ?_)
      refine s_istore (lv' := [(7, iv x26), (0, rv B 328), (2, jv c1), (4, iv c2), (5, jv x24), (8, iv x15), (12, iv x18)]) dX7_goes_171 (by decide) rfl ?_
      refine s_iload 3 dX7_goes_173 rfl ?_
      refine s_jn (fun (j3 : Mem → PR) => ∀ (s25 : Mem), SX7_goes B X (j3 s25) s25 201 [(0, rv B 328), (2, jv c1), (4, iv c2), (5, jv x24), (7, iv x26)] []) ?_ (fun j3 hj3 => ?_)
      · intro s21
        refine s_aload_n 0 dX7_goes_201 rfl rfl ?_
        refine s_dup dX7_goes_202 rfl ?_
        refine s_geti dX7_goes_203 ly7 fl_X7_338 kd_328 rfl ?_
        refine s_iconst dX7_goes_206 ?_
        refine s_iadd dX7_goes_207 ?_
        refine s_puti dX7_goes_208 ly7 ty7 fl_X7_338 kd_328 rfl po7_49 ⟨rfl, rfl, by decide⟩ (fun s22 => ?_)
        refine s_goto (tgt := 11) dX7_goes_211 (by decide) ?_
        exact ih x24 x26 s22
      · refine s_if_eq (tgt := 201) dX7_goes_175 (by decide) ?_ ?_
        · exact s_sub [1, 2, 3, 4, 0] rfl (hj3 s20)
        · refine s_aload_n 1 dX7_goes_178 rfl rfl ?_
          refine s_geti dX7_goes_179 ly7 fl_X7_338 kd_328 rfl ?_
          refine s_bipush dX7_goes_182 (by decide) ?_
          refine s_icmp_ge (tgt := 201) dX7_goes_184 (by decide) ?_ ?_
          · exact s_sub [1, 2, 3, 4, 0] rfl (hj3 s20)
          · refine s_aload_n 1 dX7_goes_187 rfl rfl ?_
            refine s_iload 5 dX7_goes_188 rfl ?_
            refine s_i2l dX7_goes_190 ?_
            refine s_Vv (rest := []) dX7_goes_191 lk_X7_211 meX7_tell (ctX7_tell B fu (w32 x15) s20) kd_328 ⟨rfl, by decide⟩ rfl rfl ⟨rfl, rfl, by decide, by decide⟩ (Nat.le_of_ble_eq_true rfl) (fun _ s23 => ?_)
            refine s_aload_n 1 dX7_goes_194 rfl rfl ?_
            refine s_iload 0 dX7_goes_195 rfl ?_
            refine s_i2l dX7_goes_197 ?_
            refine s_Vv (rest := []) dX7_goes_198 lk_X7_211 meX7_tell (ctX7_tell B fu (w32 x26) s23) kd_328 ⟨rfl, by decide⟩ rfl rfl ⟨rfl, rfl, by decide, by decide⟩ (Nat.le_of_ble_eq_true rfl) (fun _ s24 => ?_)
            exact s_sub [1, 2, 3, 4, 0] rfl (hj3 s24)
set_option maxHeartbeats 4000000 in
set_option maxRecDepth 100000 in
theorem ctX7_goes (B fu : Nat) (a0 : Int) (a1 : Int) (a2 : Int) (σ : Mem) : CtL yX7_goes cX7_goes 15 (some .long) rmX7_goes B [rv B 328, iv a0, jv a1, iv a2] σ (fX7_goes fu a0 a1 a2 σ) := by
  refine ctL_intro (own := RX7) (lv := [(0, rv B 328), (1, iv a0), (2, jv a1), (4, iv a2)]) (by decide +kernel) rfl (Nat.le_of_ble_eq_true rfl) rfl (fun X hX => ?_)
  unfold fX7_goes
  refine s_lload_n 2 dX7_goes_0 rfl rfl ?_
  refine s_lstore (lv' := [(5, jv a1), (0, rv B 328), (1, iv a0), (2, jv a1), (4, iv a2)]) dX7_goes_1 (by decide) rfl ?_
  refine s_iload_n 2 dX7_goes_3 rfl rfl ?_
  refine s_istore (lv' := [(7, iv a0), (5, jv a1), (0, rv B 328), (1, iv a0), (2, jv a1), (4, iv a2)]) dX7_goes_4 (by decide) rfl ?_
  refine s_aload_n 2 dX7_goes_6 rfl rfl ?_
  refine s_iconst dX7_goes_7 ?_
  refine s_puti dX7_goes_8 ly7 ty7 fl_X7_338 kd_328 rfl po7_49 ⟨rfl, rfl, by decide⟩ (fun s1 => ?_)
  refine s_sub [2, 4, 5, 1, 0] (lv' := [(0, rv B 328), (2, jv a1), (4, iv a2), (5, jv a1), (7, iv a0)]) rfl ?_
  refine fX7_goes_L11_s hX a1 a2 _ ?_ fu a1 a0 s1
  intro x27 s28
  refine s_lload 1 dX7_goes_214 rfl ?_
  refine s_lload_n 0 dX7_goes_216 rfl rfl ?_
  refine s_lsub dX7_goes_217 ?_
  exact s_lret hX dX7_goes_218
