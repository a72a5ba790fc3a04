abbrev rmX2_findTotal : Room := { frames := 4, cells := 0, slots := 0, locals := 94 }
abbrev SX2_findTotal (B : Nat) (X : Ctx) := Sim cX2_findTotal RX2 3 rmX2_findTotal B X
set_option maxHeartbeats 4000000 in
set_option maxRecDepth 100000 in
theorem fX2_findTotal_L16_s {B fu : Nat} {X : Ctx} (hX : CxV B X) (k88 : Mem → PR) (hk88 : ∀ (s10 : Mem), SX2_findTotal B X (k88 s10) s10 88 [] []) : ∀ (n : Nat) (x1 : Int) (s9 : Mem), SX2_findTotal B X (fX2_findTotal_L16 fu k88 n x1 s9) s9 16 [(0, rv B 136), (1, iv x1)] [] := by
  intro n
  induction n with
  | zero => intro _ _; exact s_none
  | succ n ih =>
    intro x1 s4
    rw [fX2_findTotal_L16]
    refine s_iload_n 1 dX2_findTotal_16 rfl rfl ?_
    refine s_bipush dX2_findTotal_17 (by decide) ?_
    refine s_icmp_ge (tgt := 88) dX2_findTotal_19 (by decide) ?_ ?_
    · exact s_sub [] rfl (hk88 s4)
    · refine s_aload_n 0 dX2_findTotal_22 rfl rfl ?_
      refine s_getr (n := 133) (k' := 270) dX2_findTotal_23 ly2 fl_X2_21 kd_136 rfl rfl rfl ?_
      refine s_iload_n 1 dX2_findTotal_26 rfl rfl ?_
      refine s_aals dX2_findTotal_27 (fun p1 hp1 => ?_)
      refine s_astore_n (lv' := [(2, rv B p1), (0, rv B 136), (1, iv x1)]) dX2_findTotal_28 rfl (by decide) rfl ?_
      refine s_aload_n 0 dX2_findTotal_29 rfl rfl ?_
      refine s_geti dX2_findTotal_30 ly4 fl_X2_85 hp1 rfl ?_
      refine s_iconst dX2_findTotal_33 ?_
      refine s_jn (fun (j1 : Mem → PR) => ∀ (s8 : Mem), SX2_findTotal B X (j1 s8) s8 82 [(0, rv B 136), (1, iv x1)] []) ?_ (fun j1 hj1 => ?_)
      · intro s5
        refine s_iinc (lv' := [(1, iv (x1 + 1)), (0, rv B 136)]) 1 dX2_findTotal_82 rfl (by decide) rfl ?_
        refine s_goto (tgt := 16) dX2_findTotal_85 (by decide) ?_
        exact s_sub [1, 0] rfl (ih (x1 + 1) s5)
      · refine s_icmp_eq (tgt := 60) dX2_findTotal_34 (by decide) ?_ ?_
        · refine s_iload_n 2 dX2_findTotal_60 rfl rfl ?_
          refine s_aload_n 1 dX2_findTotal_61 rfl rfl ?_
          refine s_geti dX2_findTotal_62 ly2 fl_X2_82 kd_136 rfl ?_
          refine s_icmp_eq (tgt := 82) dX2_findTotal_65 (by decide) ?_ ?_
          · exact s_sub [1, 2] rfl (hj1 s4)
          · refine s_aload_n 1 dX2_findTotal_68 rfl rfl ?_
            refine s_dup dX2_findTotal_69 rfl ?_
            refine s_getl dX2_findTotal_70 ly2 fl_X2_203 kd_136 rfl ?_
            refine s_aload_n 0 dX2_findTotal_73 rfl rfl ?_
            refine s_geti dX2_findTotal_74 ly4 fl_X2_74 hp1 rfl ?_
            refine s_i2l dX2_findTotal_77 ?_
            refine s_ladd dX2_findTotal_78 ?_
            refine s_putl dX2_findTotal_79 ly2 ty2 fl_X2_203 kd_136 rfl po2_9 ⟨rfl, rfl, by decide⟩ (fun s6 => ?_)
            exact s_sub [1, 2] rfl (hj1 s6)
        · refine s_aload_n 1 dX2_findTotal_37 rfl rfl ?_
          refine s_dup dX2_findTotal_38 rfl ?_
          refine s_getl dX2_findTotal_39 ly2 fl_X2_199 kd_136 rfl ?_
          refine s_aload_n 0 dX2_findTotal_42 rfl rfl ?_
          refine s_geti dX2_findTotal_43 ly4 fl_X2_74 hp1 rfl ?_
          refine s_i2l dX2_findTotal_46 ?_
          refine s_aload_n 0 dX2_findTotal_47 rfl rfl ?_
          refine s_geti dX2_findTotal_48 ly4 fl_X2_85 hp1 rfl ?_
          refine s_i2l dX2_findTotal_51 ?_
          refine s_lmul dX2_findTotal_52 ?_
          refine s_ladd dX2_findTotal_53 ?_
          refine s_putl dX2_findTotal_54 ly2 ty2 fl_X2_199 kd_136 rfl po2_8 ⟨rfl, rfl, by decide⟩ (fun s7 => ?_)
          refine s_goto (tgt := 82) dX2_findTotal_57 (by decide) ?_
          exact s_sub [1, 2] rfl (hj1 s7)
set_option maxHeartbeats 4000000 in
set_option maxRecDepth 100000 in
theorem ctX2_findTotal (B fu : Nat) (σ : Mem) : CtV yX2_findTotal cX2_findTotal 3 none rmX2_findTotal B [rv B 136] σ (fX2_findTotal fu σ) := by
  refine ctV_intro (own := RX2) (lv := [(0, rv B 136)]) (by decide +kernel) rfl (Nat.le_of_ble_eq_true rfl) rfl (fun X hX => ?_)
  unfold fX2_findTotal
  refine s_aload_n 0 dX2_findTotal_0 rfl rfl ?_
  refine s_Vv (rest := []) dX2_findTotal_1 lk_X2_164 meX2_findCosts (ctX2_findCosts B fu σ) kd_136 ⟨rfl, by decide⟩ rfl rfl ⟨rfl, rfl, by decide, by decide⟩ (Nat.le_of_ble_eq_true rfl) (fun _ s1 => ?_)
  refine s_aload_n 0 dX2_findTotal_4 rfl rfl ?_
  refine s_lconst (x := 0) dX2_findTotal_5 (by decide) ?_
  refine s_putl dX2_findTotal_6 ly2 ty2 fl_X2_199 kd_136 rfl po2_8 ⟨rfl, rfl, by decide⟩ (fun s2 => ?_)
  refine s_aload_n 0 dX2_findTotal_9 rfl rfl ?_
  refine s_lconst (x := 0) dX2_findTotal_10 (by decide) ?_
  refine s_putl dX2_findTotal_11 ly2 ty2 fl_X2_203 kd_136 rfl po2_9 ⟨rfl, rfl, by decide⟩ (fun s3 => ?_)
  refine s_iconst dX2_findTotal_14 ?_
  refine s_istore_n (lv' := [(1, iv 0), (0, rv B 136)]) dX2_findTotal_15 rfl (by decide) rfl ?_
  refine s_sub [1, 0] (lv' := [(0, rv B 136), (1, iv 0)]) rfl ?_
  refine fX2_findTotal_L16_s hX _ ?_ fu 0 s3
  intro s11
  exact s_vret hX dX2_findTotal_88
abbrev rmX2_findTotalSkipping : Room := { frames := 5, cells := 0, slots := 0, locals := 116 }
abbrev SX2_findTotalSkipping (B : Nat) (X : Ctx) := Sim cX2_findTotalSkipping RX2 3 rmX2_findTotalSkipping B X
set_option maxHeartbeats 4000000 in
set_option maxRecDepth 100000 in
theorem ctX2_findTotalSkipping (B fu : Nat) (a0 : Nat) (ha0 : kd a0 = 1) (a1 : Int) (σ : Mem) : CtV yX2_findTotalSkipping cX2_findTotalSkipping 3 none rmX2_findTotalSkipping B [rv B 136, rv B a0, iv a1] σ (fX2_findTotalSkipping fu a0 a1 σ) := by
  refine ctV_intro (own := RX2) (lv := [(0, rv B 136), (1, rv B a0), (2, iv a1)]) (by decide +kernel) rfl (Nat.le_of_ble_eq_true rfl) rfl (fun X hX => ?_)
  unfold fX2_findTotalSkipping
  refine s_aload_n 0 dX2_findTotalSkipping_0 rfl rfl ?_
  refine s_getr (n := 135) (k' := 272) dX2_findTotalSkipping_1 ly2 fl_X2_36 kd_136 rfl rfl rfl ?_
  refine s_aload_n 1 dX2_findTotalSkipping_4 rfl rfl ?_
  refine s_Vv (rest := []) dX2_findTotalSkipping_5 lk_X2_206 meX1_copyWay (ctX1_copyWay B fu 272 kd_272 a0 ha0 σ) kd_272 ⟨rfl, by decide⟩ rfl rfl ⟨rfl, rfl, by decide, by decide⟩ (Nat.le_of_ble_eq_true rfl) (fun _ s1 => ?_)
  refine s_aload_n 1 dX2_findTotalSkipping_8 rfl rfl ?_
  refine s_iload_n 2 dX2_findTotalSkipping_9 rfl rfl ?_
  refine s_Vv (rest := []) dX2_findTotalSkipping_10 lk_X2_210 meX1_omit (ctX1_omit B fu a0 ha0 a1 s1) ha0 ⟨rfl, by decide⟩ rfl rfl ⟨rfl, rfl, by decide, by decide⟩ (Nat.le_of_ble_eq_true rfl) (fun _ s2 => ?_)
  refine s_aload_n 0 dX2_findTotalSkipping_13 rfl rfl ?_
  refine s_Vv (rest := []) dX2_findTotalSkipping_14 lk_X2_214 meX2_findTotal (ctX2_findTotal B fu s2) kd_136 ⟨rfl, by decide⟩ rfl rfl ⟨rfl, rfl, by decide, by decide⟩ (Nat.le_of_ble_eq_true rfl) (fun _ s3 => ?_)
  refine s_aload_n 1 dX2_findTotalSkipping_17 rfl rfl ?_
  refine s_aload_n 0 dX2_findTotalSkipping_18 rfl rfl ?_
  refine s_getr (n := 135) (k' := 272) dX2_findTotalSkipping_19 ly2 fl_X2_36 kd_136 rfl rfl rfl ?_
  refine s_Vv (rest := []) dX2_findTotalSkipping_22 lk_X2_206 meX1_copyWay (ctX1_copyWay B fu a0 ha0 272 kd_272 s3) ha0 ⟨rfl, by decide⟩ rfl rfl ⟨rfl, rfl, by decide, by decide⟩ (Nat.le_of_ble_eq_true rfl) (fun _ s4 => ?_)
  exact s_vret hX dX2_findTotalSkipping_25
abbrev rmX2_settleOnce : Room := { frames := 5, cells := 0, slots := 0, locals := 114 }
abbrev SX2_settleOnce (B : Nat) (X : Ctx) := Sim cX2_settleOnce RX2 3 rmX2_settleOnce B X
set_option maxHeartbeats 4000000 in
set_option maxRecDepth 100000 in
theorem fX2_settleOnce_L18_s {B fu : Nat} {X : Ctx} (hX : CxI .int B X) (k52 : Int → Mem → PR) (hk52 : ∀ (x3 : Int) (s6 : Mem), SX2_settleOnce B X (k52 x3 s6) s6 52 [(1, iv x3)] []) : ∀ (n : Nat) (x1 : Int) (x2 : Int) (s5 : Mem), SX2_settleOnce B X (fX2_settleOnce_L18 fu k52 n x1 x2 s5) s5 18 [(0, rv B 136), (1, iv x1), (2, iv x2)] [] := by
  intro n
  induction n with
  | zero => intro _ _ _; exact s_none
  | succ n ih =>
    intro x1 x2 s3
    rw [fX2_settleOnce_L18]
    refine s_iload_n 2 dX2_settleOnce_18 rfl rfl ?_
    refine s_aload_n 0 dX2_settleOnce_19 rfl rfl ?_
    refine s_geti dX2_settleOnce_20 ly2 fl_X2_41 kd_136 rfl ?_
    refine s_icmp_ge (tgt := 52) dX2_settleOnce_23 (by decide) ?_ ?_
    · exact s_sub [1] rfl (hk52 x1 s3)
    · refine s_iload_n 1 dX2_settleOnce_26 rfl rfl ?_
      refine s_aload_n 0 dX2_settleOnce_27 rfl rfl ?_
      refine s_getd dX2_settleOnce_28 ly2 fl_X2_13 kd_136 rfl rfl (fun p1 hp1 => ?_)
      refine s_iload_n 2 dX2_settleOnce_31 rfl rfl ?_
      refine s_aald dX2_settleOnce_32 hp1 (fun p2 hp2 => ?_)
      refine s_aload_n 0 dX2_settleOnce_33 rfl rfl ?_
      refine s_geti dX2_settleOnce_34 ly2 fl_X2_60 kd_136 rfl ?_
      refine s_aload_n 0 dX2_settleOnce_37 rfl rfl ?_
      refine s_geti dX2_settleOnce_38 ly2 fl_X2_220 kd_136 rfl ?_
      refine s_Vi (rest := [iv x1]) dX2_settleOnce_41 lk_X2_223 meX1_averageLoads (ctX1_averageLoads B fu p2 hp2 (s3 136 6) (s3 136 5) s3) hp2 ⟨rfl, by decide⟩ rfl rfl ⟨rfl, rfl, by decide, by decide⟩ (Nat.le_of_ble_eq_true rfl) (fun x4 s4 => ?_)
      refine s_iadd dX2_settleOnce_44 ?_
      refine s_lti (fun x5 => ?_)
      refine s_istore_n (lv' := [(1, iv x5), (0, rv B 136), (2, iv x2)]) dX2_settleOnce_45 rfl (by decide) rfl ?_
      refine s_iinc (lv' := [(2, iv (x2 + 1)), (1, iv x5), (0, rv B 136)]) 2 dX2_settleOnce_46 rfl (by decide) rfl ?_
      refine s_goto (tgt := 18) dX2_settleOnce_49 (by decide) ?_
      exact s_sub [2, 1, 0] rfl (ih x5 (x2 + 1) s4)
set_option maxHeartbeats 4000000 in
set_option maxRecDepth 100000 in
theorem ctX2_settleOnce (B fu : Nat) (σ : Mem) : CtI yX2_settleOnce cX2_settleOnce 3 (some .int) rmX2_settleOnce B [rv B 136] σ (fX2_settleOnce fu σ) := by
  refine ctI_intro (own := RX2) (lv := [(0, rv B 136)]) (by decide +kernel) rfl (Nat.le_of_ble_eq_true rfl) rfl (fun X hX => ?_)
  unfold fX2_settleOnce
  refine s_aload_n 0 dX2_settleOnce_0 rfl rfl ?_
  refine s_Vv (rest := []) dX2_settleOnce_1 lk_X2_217 meX2_findLoads (ctX2_findLoads B fu σ) kd_136 ⟨rfl, by decide⟩ rfl rfl ⟨rfl, rfl, by decide, by decide⟩ (Nat.le_of_ble_eq_true rfl) (fun _ s1 => ?_)
  refine s_aload_n 0 dX2_settleOnce_4 rfl rfl ?_
  refine s_dup dX2_settleOnce_5 rfl ?_
  refine s_geti dX2_settleOnce_6 ly2 fl_X2_60 kd_136 rfl ?_
  refine s_iconst dX2_settleOnce_9 ?_
  refine s_iadd dX2_settleOnce_10 ?_
  refine s_puti dX2_settleOnce_11 ly2 ty2 fl_X2_60 kd_136 rfl po2_6 ⟨rfl, rfl, by decide⟩ (fun s2 => ?_)
  refine s_iconst dX2_settleOnce_14 ?_
  refine s_istore_n (lv' := [(1, iv 0), (0, rv B 136)]) dX2_settleOnce_15 rfl (by decide) rfl ?_
  refine s_iconst dX2_settleOnce_16 ?_
  refine s_istore_n (lv' := [(2, iv 0), (1, iv 0), (0, rv B 136)]) dX2_settleOnce_17 rfl (by decide) rfl ?_
  refine s_sub [2, 1, 0] (lv' := [(0, rv B 136), (1, iv 0), (2, iv 0)]) rfl ?_
  refine fX2_settleOnce_L18_s hX _ ?_ fu 0 0 s2
  intro x6 s7
  refine s_iload_n 0 dX2_settleOnce_52 rfl rfl ?_
  exact s_iret hX dX2_settleOnce_53
abbrev rmX2_forgetCrowds : Room := { frames := 0, cells := 0, slots := 0, locals := 0 }
abbrev SX2_forgetCrowds (B : Nat) (X : Ctx) := Sim cX2_forgetCrowds RX2 3 rmX2_forgetCrowds B X
set_option maxHeartbeats 4000000 in
set_option maxRecDepth 100000 in
theorem fX2_forgetCrowds_L17_s {B fu : Nat} {X : Ctx} (hX : CxV B X) (c1 : Int) (k53 : Mem → PR) (hk53 : ∀ (s7 : Mem), SX2_forgetCrowds B X (k53 s7) s7 53 [(0, rv B 136), (1, iv c1)] []) : ∀ (n : Nat) (x2 : Int) (s6 : Mem), SX2_forgetCrowds B X (fX2_forgetCrowds_L17 fu c1 k53 n x2 s6) s6 17 [(0, rv B 136), (1, iv c1), (2, iv x2)] [] := by
  intro n
  induction n with
  | zero => intro _ _; exact s_none
  | succ n ih =>
    intro x2 s3
    rw [fX2_forgetCrowds_L17]
    refine s_iload_n 2 dX2_forgetCrowds_17 rfl rfl ?_
    refine s_bipush dX2_forgetCrowds_18 (by decide) ?_
    refine s_icmp_ge (tgt := 53) dX2_forgetCrowds_20 (by decide) ?_ ?_
    · exact s_sub [0, 1] rfl (hk53 s3)
    · refine s_aload_n 0 dX2_forgetCrowds_23 rfl rfl ?_
      refine s_getd dX2_forgetCrowds_24 ly2 fl_X2_13 kd_136 rfl rfl (fun p1 hp1 => ?_)
      refine s_iload_n 1 dX2_forgetCrowds_27 rfl rfl ?_
      refine s_aald dX2_forgetCrowds_28 hp1 (fun p2 hp2 => ?_)
      refine s_getr (n := 2) (k' := p2 + 3) dX2_forgetCrowds_29 ly1 fl_X2_227 hp2 rfl rfl rfl ?_
      refine s_iload_n 2 dX2_forgetCrowds_32 rfl rfl ?_
      refine s_iconst dX2_forgetCrowds_33 ?_
      refine s_iast 8 dX2_forgetCrowds_34 (kdL3 hp2) (by decide) (fun s4 => ?_)
      refine s_aload_n 0 dX2_forgetCrowds_35 rfl rfl ?_
      refine s_getd dX2_forgetCrowds_36 ly2 fl_X2_13 kd_136 rfl rfl (fun p3 hp3 => ?_)
      refine s_iload_n 1 dX2_forgetCrowds_39 rfl rfl ?_
      refine s_aald dX2_forgetCrowds_40 hp3 (fun p4 hp4 => ?_)
      refine s_getr (n := 3) (k' := p4 + 4) dX2_forgetCrowds_41 ly1 fl_X2_230 hp4 rfl rfl rfl ?_
      refine s_iload_n 2 dX2_forgetCrowds_44 rfl rfl ?_
      refine s_iconst dX2_forgetCrowds_45 ?_
      refine s_iast 8 dX2_forgetCrowds_46 (kdL4 hp4) (by decide) (fun s5 => ?_)
      refine s_iinc (lv' := [(2, iv (x2 + 1)), (0, rv B 136), (1, iv c1)]) 2 dX2_forgetCrowds_47 rfl (by decide) rfl ?_
      refine s_goto (tgt := 17) dX2_forgetCrowds_50 (by decide) ?_
      exact s_sub [1, 2, 0] rfl (ih (x2 + 1) s5)
set_option maxHeartbeats 4000000 in
set_option maxRecDepth 100000 in
theorem fX2_forgetCrowds_L7_s {B fu : Nat} {X : Ctx} (hX : CxV B X) (k59 : Mem → PR) (hk59 : ∀ (s10 : Mem), SX2_forgetCrowds B X (k59 s10) s10 59 [] []) : ∀ (n : Nat) (x1 : Int) (s9 : Mem), SX2_forgetCrowds B X (fX2_forgetCrowds_L7 fu k59 n x1 s9) s9 7 [(0, rv B 136), (1, iv x1)] [] := by
  intro n
  induction n with
  | zero => intro _ _; exact s_none
  | succ n ih =>
    intro x1 s2
    rw [fX2_forgetCrowds_L7]
    refine s_iload_n 1 dX2_forgetCrowds_7 rfl rfl ?_
    refine s_aload_n 0 dX2_forgetCrowds_8 rfl rfl ?_
    refine s_geti dX2_forgetCrowds_9 ly2 fl_X2_41 kd_136 rfl ?_
    refine s_icmp_ge (tgt := 59) dX2_forgetCrowds_12 (by decide) ?_ ?_
    · exact s_sub [] rfl (hk59 s2)
    · refine s_iconst dX2_forgetCrowds_15 ?_
      refine s_istore_n (lv' := [(2, iv 0), (0, rv B 136), (1, iv x1)]) dX2_forgetCrowds_16 rfl (by decide) rfl ?_
      refine s_sub [1, 2, 0] (lv' := [(0, rv B 136), (1, iv x1), (2, iv 0)]) rfl ?_
      refine fX2_forgetCrowds_L17_s hX x1 _ ?_ fu 0 s2
      intro s8
      refine s_iinc (lv' := [(1, iv (x1 + 1)), (0, rv B 136)]) 1 dX2_forgetCrowds_53 rfl (by decide) rfl ?_
      refine s_goto (tgt := 7) dX2_forgetCrowds_56 (by decide) ?_
      exact s_sub [1, 0] rfl (ih (x1 + 1) s8)
set_option maxHeartbeats 4000000 in
set_option maxRecDepth 100000 in
theorem ctX2_forgetCrowds (B fu : Nat) (σ : Mem) : CtV yX2_forgetCrowds cX2_forgetCrowds 3 none rmX2_forgetCrowds B [rv B 136] σ (fX2_forgetCrowds fu σ) := by
  refine ctV_intro (own := RX2) (lv := [(0, rv B 136)]) (by decide +kernel) rfl (Nat.le_of_ble_eq_true rfl) rfl (fun X hX => ?_)
  unfold fX2_forgetCrowds
  refine s_aload_n 0 dX2_forgetCrowds_0 rfl rfl ?_
  refine s_iconst dX2_forgetCrowds_1 ?_
  refine s_puti dX2_forgetCrowds_2 ly2 ty2 fl_X2_60 kd_136 rfl po2_6 ⟨rfl, rfl, by decide⟩ (fun s1 => ?_)
  refine s_iconst dX2_forgetCrowds_5 ?_
  refine s_istore_n (lv' := [(1, iv 0), (0, rv B 136)]) dX2_forgetCrowds_6 rfl (by decide) rfl ?_
  refine s_sub [1, 0] (lv' := [(0, rv B 136), (1, iv 0)]) rfl ?_
  refine fX2_forgetCrowds_L7_s hX _ ?_ fu 0 s1
  intro s11
  exact s_vret hX dX2_forgetCrowds_59
abbrev rmX3_empty : Room := { frames := 0, cells := 0, slots := 0, locals := 0 }
abbrev SX3_empty (B : Nat) (X : Ctx) := Sim cX3_empty RX3 1 rmX3_empty B X
set_option maxHeartbeats 4000000 in
set_option maxRecDepth 100000 in
theorem ctX3_empty (B fu : Nat) (σ : Mem) : CtV yX3_empty cX3_empty 1 none rmX3_empty B [rv B 323] σ (fX3_empty fu σ) := by
  refine ctV_intro (own := RX3) (lv := [(0, rv B 323)]) (by decide +kernel) rfl (Nat.le_of_ble_eq_true rfl) rfl (fun X hX => ?_)
  unfold fX3_empty
  refine s_aload_n 0 dX3_empty_0 rfl rfl ?_
  refine s_iconst dX3_empty_1 ?_
  refine s_puti dX3_empty_2 ly3 ty3 fl_X3_15 kd_323 rfl po3_1 ⟨rfl, rfl, by decide⟩ (fun s1 => ?_)
  exact s_vret hX dX3_empty_5
abbrev rmX3_put : Room := { frames := 0, cells := 0, slots := 0, locals := 0 }
abbrev SX3_put (B : Nat) (X : Ctx) := Sim cX3_put RX3 3 rmX3_put B X
set_option maxHeartbeats 4000000 in
set_option maxRecDepth 100000 in
theorem ctX3_put (B fu : Nat) (a0 : Int) (σ : Mem) : CtV yX3_put cX3_put 3 none rmX3_put B [rv B 323, jv a0] σ (fX3_put fu a0 σ) := by
  refine ctV_intro (own := RX3) (lv := [(0, rv B 323), (1, jv a0)]) (by decide +kernel) rfl (Nat.le_of_ble_eq_true rfl) rfl (fun X hX => ?_)
  unfold fX3_put
  refine s_aload_n 0 dX3_put_0 rfl rfl ?_
  refine s_geti dX3_put_1 ly3 fl_X3_15 kd_323 rfl ?_
  refine s_bipush dX3_put_4 (by decide) ?_
  refine s_jn (fun (j1 : Mem → PR) => ∀ (s4 : Mem), SX3_put B X (j1 s4) s4 29 [] []) ?_ (fun j1 hj1 => ?_)
  · intro s1
    exact s_vret hX dX3_put_29
  · refine s_icmp_ge (tgt := 29) dX3_put_6 (by decide) ?_ ?_
    · exact s_sub [] rfl (hj1 σ)
    · refine s_aload_n 0 dX3_put_9 rfl rfl ?_
      refine s_getr (n := 0) (k' := 324) dX3_put_10 ly3 fl_X3_9 kd_323 rfl rfl rfl ?_
      refine s_aload_n 0 dX3_put_13 rfl rfl ?_
      refine s_geti dX3_put_14 ly3 fl_X3_15 kd_323 rfl ?_
      refine s_lload_n 1 dX3_put_17 rfl rfl ?_
      refine s_last 16 dX3_put_18 kd_324 (by decide) (fun s2 => ?_)
      refine s_aload_n 0 dX3_put_19 rfl rfl ?_
      refine s_dup dX3_put_20 rfl ?_
      refine s_geti dX3_put_21 ly3 fl_X3_15 kd_323 rfl ?_
      refine s_iconst dX3_put_24 ?_
      refine s_iadd dX3_put_25 ?_
      refine s_puti dX3_put_26 ly3 ty3 fl_X3_15 kd_323 rfl po3_1 ⟨rfl, rfl, by decide⟩ (fun s3 => ?_)
      exact s_sub [] rfl (hj1 s3)
abbrev rmX3_putOne : Room := { frames := 1, cells := 0, slots := 0, locals := 22 }
abbrev SX3_putOne (B : Nat) (X : Ctx) := Sim cX3_putOne RX3 3 rmX3_putOne B X
set_option maxHeartbeats 4000000 in
set_option maxRecDepth 100000 in
theorem ctX3_putOne (B fu : Nat) (a0 : Int) (σ : Mem) : CtV yX3_putOne cX3_putOne 3 none rmX3_putOne B [rv B 323, jv a0] σ (fX3_putOne fu a0 σ) := by
  refine ctV_intro (own := RX3) (lv := [(0, rv B 323), (1, jv a0)]) (by decide +kernel) rfl (Nat.le_of_ble_eq_true rfl) rfl (fun X hX => ?_)
  unfold fX3_putOne
  refine s_aload_n 0 dX3_putOne_0 rfl rfl ?_
  refine s_Vv (rest := []) dX3_putOne_1 lk_X3_19 meX3_empty (ctX3_empty B fu σ) kd_323 ⟨rfl, by decide⟩ rfl rfl ⟨rfl, rfl, by decide, by decide⟩ (Nat.le_of_ble_eq_true rfl) (fun _ s1 => ?_)
  refine s_aload_n 0 dX3_putOne_4 rfl rfl ?_
  refine s_lload_n 1 dX3_putOne_5 rfl rfl ?_
  refine s_Vv (rest := []) dX3_putOne_6 lk_X3_22 meX3_put (ctX3_put B fu a0 s1) kd_323 ⟨rfl, by decide⟩ rfl rfl ⟨rfl, rfl, by decide, by decide⟩ (Nat.le_of_ble_eq_true rfl) (fun _ s2 => ?_)
  exact s_vret hX dX3_putOne_9
abbrev rmX3_putTwo : Room := { frames := 1, cells := 0, slots := 0, locals := 22 }
abbrev SX3_putTwo (B : Nat) (X : Ctx) := Sim cX3_putTwo RX3 5 rmX3_putTwo B X
set_option maxHeartbeats 4000000 in
set_option maxRecDepth 100000 in
theorem ctX3_putTwo (B fu : Nat) (a0 : Int) (a1 : Int) (σ : Mem) : CtV yX3_putTwo cX3_putTwo 5 none rmX3_putTwo B [rv B 323, jv a0, jv a1] σ (fX3_putTwo fu a0 a1 σ) := by
  refine ctV_intro (own := RX3) (lv := [(0, rv B 323), (1, jv a0), (3, jv a1)]) (by decide +kernel) rfl (Nat.le_of_ble_eq_true rfl) rfl (fun X hX => ?_)
  unfold fX3_putTwo
  refine s_aload_n 0 dX3_putTwo_0 rfl rfl ?_
  refine s_Vv (rest := []) dX3_putTwo_1 lk_X3_19 meX3_empty (ctX3_empty B fu σ) kd_323 ⟨rfl, by decide⟩ rfl rfl ⟨rfl, rfl, by decide, by decide⟩ (Nat.le_of_ble_eq_true rfl) (fun _ s1 => ?_)
  refine s_aload_n 0 dX3_putTwo_4 rfl rfl ?_
  refine s_lload_n 1 dX3_putTwo_5 rfl rfl ?_
  refine s_Vv (rest := []) dX3_putTwo_6 lk_X3_22 meX3_put (ctX3_put B fu a0 s1) kd_323 ⟨rfl, by decide⟩ rfl rfl ⟨rfl, rfl, by decide, by decide⟩ (Nat.le_of_ble_eq_true rfl) (fun _ s2 => ?_)
  refine s_aload_n 0 dX3_putTwo_9 rfl rfl ?_
  refine s_lload_n 2 dX3_putTwo_10 rfl rfl ?_
  refine s_Vv (rest := []) dX3_putTwo_11 lk_X3_22 meX3_put (ctX3_put B fu a1 s2) kd_323 ⟨rfl, by decide⟩ rfl rfl ⟨rfl, rfl, by decide, by decide⟩ (Nat.le_of_ble_eq_true rfl) (fun _ s3 => ?_)
  exact s_vret hX dX3_putTwo_14
abbrev rmX5_addsFour : Room := { frames := 0, cells := 0, slots := 0, locals := 0 }
abbrev SX5_addsFour (B : Nat) (X : Ctx) := Sim cX5_addsFour RX5 3 rmX5_addsFour B X
set_option maxHeartbeats 4000000 in
set_option maxRecDepth 100000 in
theorem fX5_addsFour_L15_s {B fu : Nat} {X : Ctx} (hX : CxI .boolean B X) (c1 : Int) (k51 : Mem → PR) (hk51 : ∀ (s5 : Mem), SX5_addsFour B X (k51 s5) s5 51 [] []) : ∀ (n : Nat) (x1 : Int) (s4 : Mem), SX5_addsFour B X (fX5_addsFour_L15 fu c1 k51 n x1 s4) s4 15 [(0, rv B 1), (1, iv c1), (2, iv x1)] [] := by
  intro n
  induction n with
  | zero => intro _ _; exact s_none
  | succ n ih =>
    intro x1 s1
    rw [fX5_addsFour_L15]
    refine s_iload_n 2 dX5_addsFour_15 rfl rfl ?_
    refine s_if_lt (tgt := 51) dX5_addsFour_16 (by decide) ?_ ?_
    · exact s_sub [] rfl (hk51 s1)
    · refine s_aload_n 0 dX5_addsFour_19 rfl rfl ?_
      refine s_getr (n := 0) (k' := 2) dX5_addsFour_20 ly5 fl_X5_9 kd_1 rfl rfl rfl ?_
      refine s_aload_n 0 dX5_addsFour_23 rfl rfl ?_
      refine s_geti dX5_addsFour_24 ly5 fl_X5_23 kd_1 rfl ?_
      refine s_iload_n 1 dX5_addsFour_27 rfl rfl ?_
      refine s_iload_n 2 dX5_addsFour_28 rfl rfl ?_
      refine s_ishr dX5_addsFour_29 ?_
      refine s_sipush dX5_addsFour_30 (by decide) ?_
      refine s_iand dX5_addsFour_33 ?_
      refine s_iast 400 dX5_addsFour_34 kd_2 (by decide) (fun s2 => ?_)
      refine s_aload_n 0 dX5_addsFour_35 rfl rfl ?_
      refine s_dup dX5_addsFour_36 rfl ?_
      refine s_geti dX5_addsFour_37 ly5 fl_X5_23 kd_1 rfl ?_
      refine s_iconst dX5_addsFour_40 ?_
      refine s_iadd dX5_addsFour_41 ?_
      refine s_puti dX5_addsFour_42 ly5 ty5 fl_X5_23 kd_1 rfl po5_1 ⟨rfl, rfl, by decide⟩ (fun s3 => ?_)
      refine s_iinc (lv' := [(2, iv (x1 + (-8))), (0, rv B 1), (1, iv c1)]) 2 dX5_addsFour_45 rfl (by decide) rfl ?_
      refine s_goto (tgt := 15) dX5_addsFour_48 (by decide) ?_
      exact s_sub [1, 2, 0] rfl (ih (x1 + (-8)) s3)
set_option maxHeartbeats 4000000 in
set_option maxRecDepth 100000 in
theorem ctX5_addsFour (B fu : Nat) (a0 : Int) (σ : Mem) : CtI yX5_addsFour cX5_addsFour 3 (some .boolean) rmX5_addsFour B [rv B 1, iv a0] σ (fX5_addsFour fu a0 σ) := by
  refine ctI_intro (own := RX5) (lv := [(0, rv B 1), (1, iv a0)]) (by decide +kernel) rfl (Nat.le_of_ble_eq_true rfl) rfl (fun X hX => ?_)
  unfold fX5_addsFour
  refine s_aload_n 0 dX5_addsFour_0 rfl rfl ?_
  refine s_geti dX5_addsFour_1 ly5 fl_X5_23 kd_1 rfl ?_
  refine s_sipush dX5_addsFour_4 (by decide) ?_
  refine s_icmp_le (tgt := 12) dX5_addsFour_7 (by decide) ?_ ?_
  · refine s_bipush dX5_addsFour_12 (by decide) ?_
    refine s_istore_n (lv' := [(2, iv 24), (0, rv B 1), (1, iv a0)]) dX5_addsFour_14 rfl (by decide) rfl ?_
    refine s_sub [1, 2, 0] (lv' := [(0, rv B 1), (1, iv a0), (2, iv 24)]) rfl ?_
    refine fX5_addsFour_L15_s hX a0 _ ?_ fu 24 σ
    intro s6
    refine s_iconst dX5_addsFour_51 ?_
    exact s_zret hX dX5_addsFour_52
  · refine s_iconst dX5_addsFour_10 ?_
    exact s_zret hX dX5_addsFour_11
abbrev rmX5_begin : Room := { frames := 0, cells := 0, slots := 0, locals := 0 }
abbrev SX5_begin (B : Nat) (X : Ctx) := Sim cX5_begin RX5 1 rmX5_begin B X
set_option maxHeartbeats 4000000 in
set_option maxRecDepth 100000 in
theorem ctX5_begin (B fu : Nat) (σ : Mem) : CtV yX5_begin cX5_begin 1 none rmX5_begin B [rv B 1] σ (fX5_begin fu σ) := by
  refine ctV_intro (own := RX5) (lv := [(0, rv B 1)]) (by decide +kernel) rfl (Nat.le_of_ble_eq_true rfl) rfl (fun X hX => ?_)
  unfold fX5_begin
  refine s_aload_n 0 dX5_begin_0 rfl rfl ?_
  refine s_iconst dX5_begin_1 ?_
  refine s_puti dX5_begin_2 ly5 ty5 fl_X5_38 kd_1 rfl po5_5 ⟨rfl, rfl, by decide⟩ (fun s1 => ?_)
  refine s_aload_n 0 dX5_begin_5 rfl rfl ?_
  refine s_iconst dX5_begin_6 ?_
  refine s_puti dX5_begin_7 ly5 ty5 fl_X5_45 kd_1 rfl po5_3 ⟨rfl, rfl, by decide⟩ (fun s2 => ?_)
  exact s_vret hX dX5_begin_10
abbrev rmX5_isNext : Room := { frames := 0, cells := 0, slots := 0, locals := 0 }
abbrev SX5_isNext (B : Nat) (X : Ctx) := Sim cX5_isNext RX5 2 rmX5_isNext B X
set_option maxHeartbeats 4000000 in
set_option maxRecDepth 100000 in
theorem ctX5_isNext (B fu : Nat) (a0 : Int) (σ : Mem) : CtI yX5_isNext cX5_isNext 2 (some .boolean) rmX5_isNext B [rv B 1, iv a0] σ (fX5_isNext fu a0 σ) := by
  refine ctI_intro (own := RX5) (lv := [(0, rv B 1), (1, iv a0)]) (by decide +kernel) rfl (Nat.le_of_ble_eq_true rfl) rfl (fun X hX => ?_)
  unfold fX5_isNext
  refine s_aload_n 0 dX5_isNext_0 rfl rfl ?_
  refine s_geti dX5_isNext_1 ly5 fl_X5_38 kd_1 rfl ?_
  refine s_aload_n 0 dX5_isNext_4 rfl rfl ?_
  refine s_geti dX5_isNext_5 ly5 fl_X5_23 kd_1 rfl ?_
  refine s_jn (fun (j1 : Int → Mem → PR) => ∀ (x1 : Int) (s4 : Mem), SX5_isNext B X (j1 x1 s4) s4 29 [] [iv x1]) ?_ (fun j1 hj1 => ?_)
  · intro x1 s1
    exact s_zret hX dX5_isNext_29
  · refine s_jn (fun (j2 : Mem → PR) => ∀ (s3 : Mem), SX5_isNext B X (j2 s3) s3 28 [] []) ?_ (fun j2 hj2 => ?_)
    · intro s2
      refine s_iconst dX5_isNext_28 ?_
      exact hj1 0 s2
    · refine s_icmp_ge (tgt := 28) dX5_isNext_8 (by decide) ?_ ?_
      · exact s_sub [] rfl (hj2 σ)
      · refine s_aload_n 0 dX5_isNext_11 rfl rfl ?_
        refine s_getr (n := 0) (k' := 2) dX5_isNext_12 ly5 fl_X5_9 kd_1 rfl rfl rfl ?_
        refine s_aload_n 0 dX5_isNext_15 rfl rfl ?_
        refine s_geti dX5_isNext_16 ly5 fl_X5_38 kd_1 rfl ?_
        refine s_iald 400 dX5_isNext_19 kd_2 (by decide) (fun x2 => ?_)
        refine s_iload_n 1 dX5_isNext_20 rfl rfl ?_
        refine s_icmp_ne (tgt := 28) dX5_isNext_21 (by decide) ?_ ?_
        · exact s_sub [] rfl (hj2 σ)
        · refine s_iconst dX5_isNext_24 ?_
          refine s_goto (tgt := 29) dX5_isNext_25 (by decide) ?_
          exact s_sub [] rfl (hj1 1 σ)
abbrev rmX5_fails : Room := { frames := 0, cells := 0, slots := 0, locals := 0 }
abbrev SX5_fails (B : Nat) (X : Ctx) := Sim cX5_fails RX5 2 rmX5_fails B X
set_option maxHeartbeats 4000000 in
set_option maxRecDepth 100000 in
theorem ctX5_fails (B fu : Nat) (a0 : Int) (σ : Mem) : CtI yX5_fails cX5_fails 2 (some .boolean) rmX5_fails B [rv B 1, iv a0] σ (fX5_fails fu a0 σ) := by
  refine ctI_intro (own := RX5) (lv := [(0, rv B 1), (1, iv a0)]) (by decide +kernel) rfl (Nat.le_of_ble_eq_true rfl) rfl (fun X hX => ?_)
  unfold fX5_fails
  refine s_aload_n 0 dX5_fails_0 rfl rfl ?_
  refine s_iload_n 1 dX5_fails_1 rfl rfl ?_
  refine s_puti dX5_fails_2 ly5 ty5 fl_X5_48 kd_1 rfl po5_4 ⟨rfl, rfl, by decide⟩ (fun s1 => ?_)
  refine s_iconst dX5_fails_5 ?_
  exact s_zret hX dX5_fails_6
abbrev rmX5_readsEnd : Room := { frames := 1, cells := 0, slots := 0, locals := 21 }
abbrev SX5_readsEnd (B : Nat) (X : Ctx) := Sim cX5_readsEnd RX5 1 rmX5_readsEnd B X
set_option maxHeartbeats 4000000 in
set_option maxRecDepth 100000 in
theorem ctX5_readsEnd (B fu : Nat) (σ : Mem) : CtI yX5_readsEnd cX5_readsEnd 1 (some .boolean) rmX5_readsEnd B [rv B 1] σ (fX5_readsEnd fu σ) := by
  refine ctI_intro (own := RX5) (lv := [(0, rv B 1)]) (by decide +kernel) rfl (Nat.le_of_ble_eq_true rfl) rfl (fun X hX => ?_)
  unfold fX5_readsEnd
  refine s_aload_n 0 dX5_readsEnd_0 rfl rfl ?_
  refine s_geti dX5_readsEnd_1 ly5 fl_X5_38 kd_1 rfl ?_
  refine s_aload_n 0 dX5_readsEnd_4 rfl rfl ?_
  refine s_geti dX5_readsEnd_5 ly5 fl_X5_23 kd_1 rfl ?_
  refine s_jn (fun (j1 : Int → Mem → PR) => ∀ (x1 : Int) (s5 : Mem), SX5_readsEnd B X (j1 x1 s5) s5 27 [] [iv x1]) ?_ (fun j1 hj1 => ?_)
  · intro x1 s1
    exact s_zret hX dX5_readsEnd_27
  · refine s_jn (fun (j2 : Mem → PR) => ∀ (s4 : Mem), SX5_readsEnd B X (j2 s4) s4 22 [] []) ?_ (fun j2 hj2 => ?_)
    · intro s2
      refine s_iconst dX5_readsEnd_22 ?_
      refine s_goto (tgt := 27) dX5_readsEnd_23 (by decide) ?_
      exact hj1 1 s2
    · refine s_icmp_eq (tgt := 22) dX5_readsEnd_8 (by decide) ?_ ?_
      · exact s_sub [] rfl (hj2 σ)
      · refine s_aload_n 0 dX5_readsEnd_11 rfl rfl ?_
        refine s_aload_n 0 dX5_readsEnd_12 rfl rfl ?_
        refine s_geti dX5_readsEnd_13 ly5 fl_X5_38 kd_1 rfl ?_
        refine s_Vi (rest := []) dX5_readsEnd_16 lk_X5_51 meX5_fails (ctX5_fails B fu (σ 1 5) σ) kd_1 ⟨rfl, by decide⟩ rfl rfl ⟨rfl, rfl, by decide, by decide⟩ (Nat.le_of_ble_eq_true rfl) (fun x2 s3 => ?_)
        refine s_if_eq (tgt := 26) dX5_readsEnd_19 (by decide) ?_ ?_
        · refine s_iconst dX5_readsEnd_26 ?_
          exact s_sub [] rfl (hj1 0 s3)
        · exact s_sub [] rfl (hj2 s3)
abbrev rmX5_keep : Room := { frames := 2, cells := 0, slots := 0, locals := 44 }
abbrev SX5_keep (B : Nat) (X : Ctx) := Sim cX5_keep RX5 3 rmX5_keep B X
set_option maxHeartbeats 4000000 in
set_option maxRecDepth 100000 in
theorem ctX5_keep (B fu : Nat) (a0 : Nat) (ha0 : kd a0 = 1) (a1 : Int) (σ : Mem) : CtI yX5_keep cX5_keep 3 (some .boolean) rmX5_keep B [rv B 1, rv B a0, iv a1] σ (fX5_keep fu a0 a1 σ) := by
  refine ctI_intro (own := RX5) (lv := [(0, rv B 1), (1, rv B a0), (2, iv a1)]) (by decide +kernel) rfl (Nat.le_of_ble_eq_true rfl) rfl (fun X hX => ?_)
  unfold fX5_keep
  refine s_aload_n 0 dX5_keep_0 rfl rfl ?_
  refine s_dup dX5_keep_1 rfl ?_
  refine s_geti dX5_keep_2 ly5 fl_X5_45 kd_1 rfl ?_
  refine s_iconst dX5_keep_5 ?_
  refine s_iadd dX5_keep_6 ?_
  refine s_puti dX5_keep_7 ly5 ty5 fl_X5_45 kd_1 rfl po5_3 ⟨rfl, rfl, by decide⟩ (fun s1 => ?_)
  refine s_iload_n 2 dX5_keep_10 rfl rfl ?_
  refine s_jn (fun (j1 : Mem → PR) => ∀ (s5 : Mem), SX5_keep B X (j1 s5) s5 37 [] []) ?_ (fun j1 hj1 => ?_)
  · intro s2
    refine s_iconst dX5_keep_37 ?_
    exact s_zret hX dX5_keep_38
  · refine s_if_eq (tgt := 37) dX5_keep_11 (by decide) ?_ ?_
    · exact s_sub [] rfl (hj1 s1)
    · refine s_aload_n 0 dX5_keep_14 rfl rfl ?_
      refine s_getd dX5_keep_15 ly5 fl_X5_19 kd_1 rfl rfl (fun p1 hp1 => ?_)
      refine s_aload_n 0 dX5_keep_18 rfl rfl ?_
      refine s_geti dX5_keep_19 ly5 fl_X5_45 kd_1 rfl ?_
      refine s_aald dX5_keep_22 hp1 (fun p2 hp2 => ?_)
      refine s_aload_n 1 dX5_keep_23 rfl rfl ?_
      refine s_Vv (rest := []) dX5_keep_24 lk_X5_94 meX1_becomeReturnOf (ctX1_becomeReturnOf B fu p2 hp2 a0 ha0 s1) hp2 ⟨rfl, by decide⟩ rfl rfl ⟨rfl, rfl, by decide, by decide⟩ (Nat.le_of_ble_eq_true rfl) (fun _ s3 => ?_)
      refine s_aload_n 0 dX5_keep_27 rfl rfl ?_
      refine s_dup dX5_keep_28 rfl ?_
      refine s_geti dX5_keep_29 ly5 fl_X5_45 kd_1 rfl ?_
      refine s_iconst dX5_keep_32 ?_
      refine s_iadd dX5_keep_33 ?_
      refine s_puti dX5_keep_34 ly5 ty5 fl_X5_45 kd_1 rfl po5_3 ⟨rfl, rfl, by decide⟩ (fun s4 => ?_)
      exact s_sub [] rfl (hj1 s4)
abbrev rmX5_isDigitNext : Room := { frames := 0, cells := 0, slots := 0, locals := 0 }
abbrev SX5_isDigitNext (B : Nat) (X : Ctx) := Sim cX5_isDigitNext RX5 1 rmX5_isDigitNext B X
set_option maxHeartbeats 4000000 in
set_option maxRecDepth 100000 in
theorem ctX5_isDigitNext (B fu : Nat) (σ : Mem) : CtI yX5_isDigitNext cX5_isDigitNext 1 (some .boolean) rmX5_isDigitNext B [rv B 1] σ (fX5_isDigitNext fu σ) := by
  refine ctI_intro (own := RX5) (lv := [(0, rv B 1)]) (by decide +kernel) rfl (Nat.le_of_ble_eq_true rfl) rfl (fun X hX => ?_)
  unfold fX5_isDigitNext
  refine s_aload_n 0 dX5_isDigitNext_0 rfl rfl ?_
  refine s_geti dX5_isDigitNext_1 ly5 fl_X5_38 kd_1 rfl ?_
  refine s_aload_n 0 dX5_isDigitNext_4 rfl rfl ?_
  refine s_geti dX5_isDigitNext_5 ly5 fl_X5_23 kd_1 rfl ?_
  refine s_jn (fun (j1 : Int → Mem → PR) => ∀ (x1 : Int) (s4 : Mem), SX5_isDigitNext B X (j1 x1 s4) s4 44 [] [iv x1]) ?_ (fun j1 hj1 => ?_)
  · intro x1 s1
    exact s_zret hX dX5_isDigitNext_44
  · refine s_jn (fun (j2 : Mem → PR) => ∀ (s3 : Mem), SX5_isDigitNext B X (j2 s3) s3 43 [] []) ?_ (fun j2 hj2 => ?_)
    · intro s2
      refine s_iconst dX5_isDigitNext_43 ?_
      exact hj1 0 s2
    · refine s_icmp_ge (tgt := 43) dX5_isDigitNext_8 (by decide) ?_ ?_
      · exact s_sub [] rfl (hj2 σ)
      · refine s_aload_n 0 dX5_isDigitNext_11 rfl rfl ?_
        refine s_getr (n := 0) (k' := 2) dX5_isDigitNext_12 ly5 fl_X5_9 kd_1 rfl rfl rfl ?_
        refine s_aload_n 0 dX5_isDigitNext_15 rfl rfl ?_
        refine s_geti dX5_isDigitNext_16 ly5 fl_X5_38 kd_1 rfl ?_
        refine s_iald 400 dX5_isDigitNext_19 kd_2 (by decide) (fun x2 => ?_)
        refine s_bipush dX5_isDigitNext_20 (by decide) ?_
        refine s_icmp_lt (tgt := 43) dX5_isDigitNext_22 (by decide) ?_ ?_
        · exact s_sub [] rfl (hj2 σ)
        · refine s_aload_n 0 dX5_isDigitNext_25 rfl rfl ?_
          refine s_getr (n := 0) (k' := 2) dX5_isDigitNext_26 ly5 fl_X5_9 kd_1 rfl rfl rfl ?_
          refine s_aload_n 0 dX5_isDigitNext_29 rfl rfl ?_
          refine s_geti dX5_isDigitNext_30 ly5 fl_X5_38 kd_1 rfl ?_
          refine s_iald 400 dX5_isDigitNext_33 kd_2 (by decide) (fun x3 => ?_)
          refine s_bipush dX5_isDigitNext_34 (by decide) ?_
          refine s_icmp_gt (tgt := 43) dX5_isDigitNext_36 (by decide) ?_ ?_
          · exact s_sub [] rfl (hj2 σ)
          · refine s_iconst dX5_isDigitNext_39 ?_
            refine s_goto (tgt := 44) dX5_isDigitNext_40 (by decide) ?_
            exact s_sub [] rfl (hj1 1 σ)
abbrev rmX5_readsNumber : Room := { frames := 1, cells := 0, slots := 0, locals := 21 }
abbrev SX5_readsNumber (B : Nat) (X : Ctx) := Sim cX5_readsNumber RX5 3 rmX5_readsNumber B X
set_option maxHeartbeats 4000000 in
set_option maxRecDepth 100000 in
theorem fX5_readsNumber_L23_s {B fu : Nat} {X : Ctx} (hX : CxI .boolean B X) (c1 : Int) (k75 : Mem → PR) (hk75 : ∀ (s8 : Mem), SX5_readsNumber B X (k75 s8) s8 75 [(0, rv B 1), (1, iv c1)] []) : ∀ (n : Nat) (x2 : Int) (s7 : Mem), SX5_readsNumber B X (fX5_readsNumber_L23 fu c1 k75 n x2 s7) s7 23 [(0, rv B 1), (1, iv c1), (2, iv x2)] [] := by
  intro n
  induction n with
  | zero => intro _ _; exact s_none
  | succ n ih =>
    intro x2 s3
    rw [fX5_readsNumber_L23]
    refine s_iload_n 2 dX5_readsNumber_23 rfl rfl ?_
    refine s_iconst dX5_readsNumber_24 ?_
    refine s_icmp_ge (tgt := 75) dX5_readsNumber_25 (by decide) ?_ ?_
    · exact s_sub [0, 1] rfl (hk75 s3)
    · refine s_aload_n 0 dX5_readsNumber_28 rfl rfl ?_
      refine s_Vi (rest := []) dX5_readsNumber_29 lk_X5_54 meX5_isDigitNext (ctX5_isDigitNext B fu s3) kd_1 ⟨rfl, by decide⟩ rfl rfl ⟨rfl, rfl, by decide, by decide⟩ (Nat.le_of_ble_eq_true rfl) (fun x3 s4 => ?_)
      refine s_if_eq (tgt := 75) dX5_readsNumber_32 (by decide) ?_ ?_
      · exact s_sub [0, 1] rfl (hk75 s4)
      · refine s_aload_n 0 dX5_readsNumber_35 rfl rfl ?_
        refine s_bipush dX5_readsNumber_36 (by decide) ?_
        refine s_aload_n 0 dX5_readsNumber_38 rfl rfl ?_
        refine s_geti dX5_readsNumber_39 ly5 fl_X5_57 kd_1 rfl ?_
        refine s_imul dX5_readsNumber_42 ?_
        refine s_aload_n 0 dX5_readsNumber_43 rfl rfl ?_
        refine s_getr (n := 0) (k' := 2) dX5_readsNumber_44 ly5 fl_X5_9 kd_1 rfl rfl rfl ?_
        refine s_aload_n 0 dX5_readsNumber_47 rfl rfl ?_
        refine s_geti dX5_readsNumber_48 ly5 fl_X5_38 kd_1 rfl ?_
        refine s_iald 400 dX5_readsNumber_51 kd_2 (by decide) (fun x4 => ?_)
        refine s_iadd dX5_readsNumber_52 ?_
        refine s_bipush dX5_readsNumber_53 (by decide) ?_
        refine s_isub dX5_readsNumber_55 ?_
        refine s_puti dX5_readsNumber_56 ly5 ty5 fl_X5_57 kd_1 rfl po5_6 ⟨rfl, rfl, by decide⟩ (fun s5 => ?_)
        refine s_aload_n 0 dX5_readsNumber_59 rfl rfl ?_
        refine s_dup dX5_readsNumber_60 rfl ?_
        refine s_geti dX5_readsNumber_61 ly5 fl_X5_38 kd_1 rfl ?_
        refine s_iconst dX5_readsNumber_64 ?_
        refine s_iadd dX5_readsNumber_65 ?_
        refine s_puti dX5_readsNumber_66 ly5 ty5 fl_X5_38 kd_1 rfl po5_5 ⟨rfl, rfl, by decide⟩ (fun s6 => ?_)
        refine s_iinc (lv' := [(2, iv (x2 + 1)), (0, rv B 1), (1, iv c1)]) 2 dX5_readsNumber_69 rfl (by decide) rfl ?_
        refine s_goto (tgt := 23) dX5_readsNumber_72 (by decide) ?_
        exact s_sub [1, 2, 0] rfl (ih (x2 + 1) s6)
set_option maxHeartbeats 4000000 in
set_option maxRecDepth 100000 in
theorem ctX5_readsNumber (B fu : Nat) (a0 : Int) (σ : Mem) : CtI yX5_readsNumber cX5_readsNumber 3 (some .boolean) rmX5_readsNumber B [rv B 1, iv a0] σ (fX5_readsNumber fu a0 σ) := by
  refine ctI_intro (own := RX5) (lv := [(0, rv B 1), (1, iv a0)]) (by decide +kernel) rfl (Nat.le_of_ble_eq_true rfl) rfl (fun X hX => ?_)
  unfold fX5_readsNumber
  refine s_aload_n 0 dX5_readsNumber_0 rfl rfl ?_
  refine s_Vi (rest := []) dX5_readsNumber_1 lk_X5_54 meX5_isDigitNext (ctX5_isDigitNext B fu σ) kd_1 ⟨rfl, by decide⟩ rfl rfl ⟨rfl, rfl, by decide, by decide⟩ (Nat.le_of_ble_eq_true rfl) (fun x1 s1 => ?_)
  refine s_if_ne (tgt := 16) dX5_readsNumber_4 (by decide) ?_ ?_
  · refine s_aload_n 0 dX5_readsNumber_16 rfl rfl ?_
    refine s_iconst dX5_readsNumber_17 ?_
    refine s_puti dX5_readsNumber_18 ly5 ty5 fl_X5_57 kd_1 rfl po5_6 ⟨rfl, rfl, by decide⟩ (fun s2 => ?_)
    refine s_iconst dX5_readsNumber_21 ?_
    refine s_istore_n (lv' := [(2, iv 0), (0, rv B 1), (1, iv a0)]) dX5_readsNumber_22 rfl (by decide) rfl ?_
    refine s_sub [1, 2, 0] (lv' := [(0, rv B 1), (1, iv a0), (2, iv 0)]) rfl ?_
    refine fX5_readsNumber_L23_s hX a0 _ ?_ fu 0 s2
    intro s9
    refine s_aload_n 0 dX5_readsNumber_75 rfl rfl ?_
    refine s_geti dX5_readsNumber_76 ly5 fl_X5_57 kd_1 rfl ?_
    refine s_iconst dX5_readsNumber_79 ?_
    refine s_jn (fun (j1 : Int → Mem → PR) => ∀ (x5 : Int) (s16 : Mem), SX5_readsNumber B X (j1 x5 s16) s16 109 [] [iv x5]) ?_ (fun j1 hj1 => ?_)
    · intro x5 s10
      exact s_zret hX dX5_readsNumber_109
    · refine s_jn (fun (j2 : Mem → PR) => ∀ (s15 : Mem), SX5_readsNumber B X (j2 s15) s15 104 [] []) ?_ (fun j2 hj2 => ?_)
      · intro s11
        refine s_iconst dX5_readsNumber_104 ?_
        refine s_goto (tgt := 109) dX5_readsNumber_105 (by decide) ?_
        exact hj1 1 s11
      · refine s_jn (fun (j3 : Mem → PR) => ∀ (s14 : Mem), SX5_readsNumber B X (j3 s14) s14 91 [(0, rv B 1)] []) ?_ (fun j3 hj3 => ?_)
        · intro s12
          refine s_aload_n 0 dX5_readsNumber_91 rfl rfl ?_
          refine s_aload_n 0 dX5_readsNumber_92 rfl rfl ?_
          refine s_geti dX5_readsNumber_93 ly5 fl_X5_38 kd_1 rfl ?_
          refine s_iconst dX5_readsNumber_96 ?_
          refine s_isub dX5_readsNumber_97 ?_
          refine s_Vi (rest := []) dX5_readsNumber_98 lk_X5_51 meX5_fails (ctX5_fails B fu ((s12 1 5) - 1) s12) kd_1 ⟨rfl, by decide⟩ rfl rfl ⟨rfl, rfl, by decide, by decide⟩ (Nat.le_of_ble_eq_true rfl) (fun x6 s13 => ?_)
          refine s_if_eq (tgt := 108) dX5_readsNumber_101 (by decide) ?_ ?_
          · refine s_iconst dX5_readsNumber_108 ?_
            exact s_sub [] rfl (hj1 0 s13)
          · exact s_sub [] rfl (hj2 s13)
        · refine s_icmp_lt (tgt := 91) dX5_readsNumber_80 (by decide) ?_ ?_
          · exact s_sub [0] rfl (hj3 s9)
          · refine s_aload_n 0 dX5_readsNumber_83 rfl rfl ?_
            refine s_geti dX5_readsNumber_84 ly5 fl_X5_57 kd_1 rfl ?_
            refine s_iload_n 1 dX5_readsNumber_87 rfl rfl ?_
            refine s_icmp_le (tgt := 104) dX5_readsNumber_88 (by decide) ?_ ?_
            · exact s_sub [] rfl (hj2 s9)
            · exact s_sub [0] rfl (hj3 s9)
  · refine s_aload_n 0 dX5_readsNumber_7 rfl rfl ?_
    refine s_aload_n 0 dX5_readsNumber_8 rfl rfl ?_
    refine s_geti dX5_readsNumber_9 ly5 fl_X5_38 kd_1 rfl ?_
    refine s_Vi (rest := []) dX5_readsNumber_12 lk_X5_51 meX5_fails (ctX5_fails B fu (s1 1 5) s1) kd_1 ⟨rfl, by decide⟩ rfl rfl ⟨rfl, rfl, by decide, by decide⟩ (Nat.le_of_ble_eq_true rfl) (fun x7 s17 => ?_)
    exact s_zret hX dX5_readsNumber_15
abbrev rmX5_readsSign : Room := { frames := 1, cells := 0, slots := 0, locals := 21 }
abbrev SX5_readsSign (B : Nat) (X : Ctx) := Sim cX5_readsSign RX5 2 rmX5_readsSign B X
set_option maxHeartbeats 4000000 in
set_option maxRecDepth 100000 in
theorem ctX5_readsSign (B fu : Nat) (a0 : Int) (σ : Mem) : CtI yX5_readsSign cX5_readsSign 2 (some .boolean) rmX5_readsSign B [rv B 1, iv a0] σ (fX5_readsSign fu a0 σ) := by
  refine ctI_intro (own := RX5) (lv := [(0, rv B 1), (1, iv a0)]) (by decide +kernel) rfl (Nat.le_of_ble_eq_true rfl) rfl (fun X hX => ?_)
  unfold fX5_readsSign
  refine s_aload_n 0 dX5_readsSign_0 rfl rfl ?_
  refine s_iload_n 1 dX5_readsSign_1 rfl rfl ?_
  refine s_Vi (rest := []) dX5_readsSign_2 lk_X5_34 meX5_isNext (ctX5_isNext B fu a0 σ) kd_1 ⟨rfl, by decide⟩ rfl rfl ⟨rfl, rfl, by decide, by decide⟩ (Nat.le_of_ble_eq_true rfl) (fun x1 s1 => ?_)
  refine s_if_ne (tgt := 17) dX5_readsSign_5 (by decide) ?_ ?_
  · refine s_aload_n 0 dX5_readsSign_17 rfl rfl ?_
    refine s_dup dX5_readsSign_18 rfl ?_
    refine s_geti dX5_readsSign_19 ly5 fl_X5_38 kd_1 rfl ?_
    refine s_iconst dX5_readsSign_22 ?_
    refine s_iadd dX5_readsSign_23 ?_
    refine s_puti dX5_readsSign_24 ly5 ty5 fl_X5_38 kd_1 rfl po5_5 ⟨rfl, rfl, by decide⟩ (fun s2 => ?_)
    refine s_iconst dX5_readsSign_27 ?_
    exact s_zret hX dX5_readsSign_28
  · refine s_aload_n 0 dX5_readsSign_8 rfl rfl ?_
    refine s_aload_n 0 dX5_readsSign_9 rfl rfl ?_
    refine s_geti dX5_readsSign_10 ly5 fl_X5_38 kd_1 rfl ?_
    refine s_Vi (rest := []) dX5_readsSign_13 lk_X5_51 meX5_fails (ctX5_fails B fu (s1 1 5) s1) kd_1 ⟨rfl, by decide⟩ rfl rfl ⟨rfl, rfl, by decide, by decide⟩ (Nat.le_of_ble_eq_true rfl) (fun x2 s3 => ?_)
    exact s_zret hX dX5_readsSign_16
abbrev rmX5_readsStop : Room := { frames := 1, cells := 0, slots := 0, locals := 22 }
abbrev SX5_readsStop (B : Nat) (X : Ctx) := Sim cX5_readsStop RX5 3 rmX5_readsStop B X
set_option maxHeartbeats 4000000 in
set_option maxRecDepth 100000 in
theorem ctX5_readsStop (B fu : Nat) (a0 : Nat) (ha0 : kd a0 = 1) (a1 : Int) (σ : Mem) : CtI yX5_readsStop cX5_readsStop 3 (some .boolean) rmX5_readsStop B [rv B 1, rv B a0, iv a1] σ (fX5_readsStop fu a0 a1 σ) := by
  refine ctI_intro (own := RX5) (lv := [(0, rv B 1), (1, rv B a0), (2, iv a1)]) (by decide +kernel) rfl (Nat.le_of_ble_eq_true rfl) rfl (fun X hX => ?_)
  unfold fX5_readsStop
  refine s_aload_n 0 dX5_readsStop_0 rfl rfl ?_
  refine s_Vi (rest := []) dX5_readsStop_1 lk_X5_54 meX5_isDigitNext (ctX5_isDigitNext B fu σ) kd_1 ⟨rfl, by decide⟩ rfl rfl ⟨rfl, rfl, by decide, by decide⟩ (Nat.le_of_ble_eq_true rfl) (fun x1 s1 => ?_)
  refine s_jn (fun (j1 : Mem → PR) => ∀ (s7 : Mem), SX5_readsStop B X (j1 s7) s7 26 [(0, rv B 1)] []) ?_ (fun j1 hj1 => ?_)
  · intro s2
    refine s_aload_n 0 dX5_readsStop_26 rfl rfl ?_
    refine s_aload_n 0 dX5_readsStop_27 rfl rfl ?_
    refine s_geti dX5_readsStop_28 ly5 fl_X5_38 kd_1 rfl ?_
    refine s_Vi (rest := []) dX5_readsStop_31 lk_X5_51 meX5_fails (ctX5_fails B fu (s2 1 5) s2) kd_1 ⟨rfl, by decide⟩ rfl rfl ⟨rfl, rfl, by decide, by decide⟩ (Nat.le_of_ble_eq_true rfl) (fun x2 s3 => ?_)
    exact s_zret hX dX5_readsStop_34
  · refine s_if_eq (tgt := 26) dX5_readsStop_4 (by decide) ?_ ?_
    · exact s_sub [0] rfl (hj1 s1)
    · refine s_aload_n 1 dX5_readsStop_7 rfl rfl ?_
      refine s_aload_n 0 dX5_readsStop_8 rfl rfl ?_
      refine s_getr (n := 0) (k' := 2) dX5_readsStop_9 ly5 fl_X5_9 kd_1 rfl rfl rfl ?_
      refine s_aload_n 0 dX5_readsStop_12 rfl rfl ?_
      refine s_geti dX5_readsStop_13 ly5 fl_X5_38 kd_1 rfl ?_
      refine s_iald 400 dX5_readsStop_16 kd_2 (by decide) (fun x3 => ?_)
      refine s_bipush dX5_readsStop_17 (by decide) ?_
      refine s_isub dX5_readsStop_19 ?_
      refine s_Vi (rest := []) dX5_readsStop_20 lk_X5_60 meX1_goesTo (ctX1_goesTo B fu a0 ha0 (x3 - 48) s1) ha0 ⟨rfl, by decide⟩ rfl rfl ⟨rfl, rfl, by decide, by decide⟩ (Nat.le_of_ble_eq_true rfl) (fun x4 s4 => ?_)
      refine s_if_eq (tgt := 35) dX5_readsStop_23 (by decide) ?_ ?_
      · refine s_aload_n 1 dX5_readsStop_35 rfl rfl ?_
        refine s_iload_n 2 dX5_readsStop_36 rfl rfl ?_
        refine s_aload_n 0 dX5_readsStop_37 rfl rfl ?_
        refine s_getr (n := 0) (k' := 2) dX5_readsStop_38 ly5 fl_X5_9 kd_1 rfl rfl rfl ?_
        refine s_aload_n 0 dX5_readsStop_41 rfl rfl ?_
        refine s_geti dX5_readsStop_42 ly5 fl_X5_38 kd_1 rfl ?_
        refine s_iald 400 dX5_readsStop_45 kd_2 (by decide) (fun x5 => ?_)
        refine s_bipush dX5_readsStop_46 (by decide) ?_
        refine s_isub dX5_readsStop_48 ?_
        refine s_Vv (rest := []) dX5_readsStop_49 lk_X5_65 meX1_lead (ctX1_lead B fu a0 ha0 a1 (x5 - 48) s4) ha0 ⟨rfl, by decide⟩ rfl rfl ⟨rfl, rfl, by decide, by decide⟩ (Nat.le_of_ble_eq_true rfl) (fun _ s5 => ?_)
        refine s_aload_n 0 dX5_readsStop_52 rfl rfl ?_
        refine s_dup dX5_readsStop_53 rfl ?_
        refine s_geti dX5_readsStop_54 ly5 fl_X5_38 kd_1 rfl ?_
        refine s_iconst dX5_readsStop_57 ?_
        refine s_iadd dX5_readsStop_58 ?_
        refine s_puti dX5_readsStop_59 ly5 ty5 fl_X5_38 kd_1 rfl po5_5 ⟨rfl, rfl, by decide⟩ (fun s6 => ?_)
        refine s_iconst dX5_readsStop_62 ?_
        exact s_zret hX dX5_readsStop_63
      · exact s_sub [0] rfl (hj1 s4)
abbrev rmX5_readsStep : Room := { frames := 2, cells := 0, slots := 0, locals := 44 }
abbrev SX5_readsStep (B : Nat) (X : Ctx) := Sim cX5_readsStep RX5 2 rmX5_readsStep B X
set_option maxHeartbeats 4000000 in
set_option maxRecDepth 100000 in
theorem ctX5_readsStep (B fu : Nat) (a0 : Nat) (ha0 : kd a0 = 1) (σ : Mem) : CtI yX5_readsStep cX5_readsStep 2 (some .boolean) rmX5_readsStep B [rv B 1, rv B a0] σ (fX5_readsStep fu a0 σ) := by
  refine ctI_intro (own := RX5) (lv := [(0, rv B 1), (1, rv B a0)]) (by decide +kernel) rfl (Nat.le_of_ble_eq_true rfl) rfl (fun X hX => ?_)
  unfold fX5_readsStep
  refine s_aload_n 0 dX5_readsStep_0 rfl rfl ?_
  refine s_bipush dX5_readsStep_1 (by decide) ?_
  refine s_Vi (rest := []) dX5_readsStep_3 lk_X5_69 meX5_readsSign (ctX5_readsSign B fu 45 σ) kd_1 ⟨rfl, by decide⟩ rfl rfl ⟨rfl, rfl, by decide, by decide⟩ (Nat.le_of_ble_eq_true rfl) (fun x1 s1 => ?_)
  refine s_jn (fun (j1 : Int → Mem → PR) => ∀ (x2 : Int) (s8 : Mem), SX5_readsStep B X (j1 x2 s8) s8 44 [] [iv x2]) ?_ (fun j1 hj1 => ?_)
  · intro x2 s2
    exact s_zret hX dX5_readsStep_44
  · refine s_jn (fun (j2 : Mem → PR) => ∀ (s7 : Mem), SX5_readsStep B X (j2 s7) s7 43 [] []) ?_ (fun j2 hj2 => ?_)
    · intro s3
      refine s_iconst dX5_readsStep_43 ?_
      exact hj1 0 s3
    · refine s_if_eq (tgt := 43) dX5_readsStep_6 (by decide) ?_ ?_
      · exact s_sub [] rfl (hj2 s1)
      · refine s_aload_n 0 dX5_readsStep_9 rfl rfl ?_
        refine s_bipush dX5_readsStep_10 (by decide) ?_
        refine s_Vi (rest := []) dX5_readsStep_12 lk_X5_72 meX5_readsNumber (ctX5_readsNumber B fu 99 s1) kd_1 ⟨rfl, by decide⟩ rfl rfl ⟨rfl, rfl, by decide, by decide⟩ (Nat.le_of_ble_eq_true rfl) (fun x3 s4 => ?_)
        refine s_if_eq (tgt := 43) dX5_readsStep_15 (by decide) ?_ ?_
        · exact s_sub [] rfl (hj2 s4)
        · refine s_aload_n 0 dX5_readsStep_18 rfl rfl ?_
          refine s_bipush dX5_readsStep_19 (by decide) ?_
          refine s_Vi (rest := []) dX5_readsStep_21 lk_X5_69 meX5_readsSign (ctX5_readsSign B fu 45 s4) kd_1 ⟨rfl, by decide⟩ rfl rfl ⟨rfl, rfl, by decide, by decide⟩ (Nat.le_of_ble_eq_true rfl) (fun x4 s5 => ?_)
          refine s_if_eq (tgt := 43) dX5_readsStep_24 (by decide) ?_ ?_
          · exact s_sub [] rfl (hj2 s5)
          · refine s_aload_n 0 dX5_readsStep_27 rfl rfl ?_
            refine s_aload_n 1 dX5_readsStep_28 rfl rfl ?_
            refine s_aload_n 0 dX5_readsStep_29 rfl rfl ?_
            refine s_geti dX5_readsStep_30 ly5 fl_X5_57 kd_1 rfl ?_
            refine s_Vi (rest := []) dX5_readsStep_33 lk_X5_75 meX5_readsStop (ctX5_readsStop B fu a0 ha0 (s5 1 6) s5) kd_1 ⟨rfl, by decide⟩ rfl rfl ⟨rfl, rfl, by decide, by decide⟩ (Nat.le_of_ble_eq_true rfl) (fun x5 s6 => ?_)
            refine s_if_eq (tgt := 43) dX5_readsStep_36 (by decide) ?_ ?_
            · exact s_sub [] rfl (hj2 s6)
            · refine s_iconst dX5_readsStep_39 ?_
              refine s_goto (tgt := 44) dX5_readsStep_40 (by decide) ?_
              exact s_sub [] rfl (hj1 1 s6)
abbrev rmX5_readsWay : Room := { frames := 3, cells := 0, slots := 0, locals := 65 }
abbrev SX5_readsWay (B : Nat) (X : Ctx) := Sim cX5_readsWay RX5 3 rmX5_readsWay B X
set_option maxHeartbeats 4000000 in
set_option maxRecDepth 100000 in
theorem fX5_readsWay_L21_s {B fu : Nat} {X : Ctx} (hX : CxI .boolean B X) (p1 : Nat) (hp1 : kd p1 = 1) (k52 : Mem → PR) (hk52 : ∀ (s8 : Mem), SX5_readsWay B X (k52 s8) s8 52 [] []) (k44 : Mem → PR) (hk44 : ∀ (s9 : Mem), SX5_readsWay B X (k44 s9) s9 44 [] []) : ∀ (n : Nat) (x3 : Int) (s7 : Mem), SX5_readsWay B X (fX5_readsWay_L21 fu p1 k52 k44 n x3 s7) s7 21 [(0, rv B 1), (1, rv B p1), (2, iv x3)] [] := by
  intro n
  induction n with
  | zero => intro _ _; exact s_none
  | succ n ih =>
    intro x3 s4
    rw [fX5_readsWay_L21]
    refine s_iload_n 2 dX5_readsWay_21 rfl rfl ?_
    refine s_bipush dX5_readsWay_22 (by decide) ?_
    refine s_icmp_ge (tgt := 52) dX5_readsWay_24 (by decide) ?_ ?_
    · exact s_sub [] rfl (hk52 s4)
    · refine s_aload_n 0 dX5_readsWay_27 rfl rfl ?_
      refine s_bipush dX5_readsWay_28 (by decide) ?_
      refine s_Vi (rest := []) dX5_readsWay_30 lk_X5_34 meX5_isNext (ctX5_isNext B fu 45 s4) kd_1 ⟨rfl, by decide⟩ rfl rfl ⟨rfl, rfl, by decide, by decide⟩ (Nat.le_of_ble_eq_true rfl) (fun x4 s5 => ?_)
      refine s_if_eq (tgt := 52) dX5_readsWay_33 (by decide) ?_ ?_
      · exact s_sub [] rfl (hk52 s5)
      · refine s_aload_n 0 dX5_readsWay_36 rfl rfl ?_
        refine s_aload_n 1 dX5_readsWay_37 rfl rfl ?_
        refine s_Vi (rest := []) dX5_readsWay_38 lk_X5_91 meX5_readsStep (ctX5_readsStep B fu p1 hp1 s5) kd_1 ⟨rfl, by decide⟩ rfl rfl ⟨rfl, rfl, by decide, by decide⟩ (Nat.le_of_ble_eq_true rfl) (fun x5 s6 => ?_)
        refine s_if_ne (tgt := 46) dX5_readsWay_41 (by decide) ?_ ?_
        · refine s_iinc (lv' := [(2, iv (x3 + 1)), (0, rv B 1), (1, rv B p1)]) 2 dX5_readsWay_46 rfl (by decide) rfl ?_
          refine s_goto (tgt := 21) dX5_readsWay_49 (by decide) ?_
          exact s_sub [1, 2, 0] rfl (ih (x3 + 1) s6)
        · exact s_sub [] rfl (hk44 s6)
set_option maxHeartbeats 4000000 in
set_option maxRecDepth 100000 in
theorem ctX5_readsWay (B fu : Nat) (a0 : Nat) (ha0 : kd a0 = 1) (σ : Mem) : CtI yX5_readsWay cX5_readsWay 3 (some .boolean) rmX5_readsWay B [rv B 1, rv B a0] σ (fX5_readsWay fu a0 σ) := by
  refine ctI_intro (own := RX5) (lv := [(0, rv B 1), (1, rv B a0)]) (by decide +kernel) rfl (Nat.le_of_ble_eq_true rfl) rfl (fun X hX => ?_)
  unfold fX5_readsWay
  refine s_aload_n 0 dX5_readsWay_0 rfl rfl ?_
  refine s_aload_n 1 dX5_readsWay_1 rfl rfl ?_
  refine s_iconst dX5_readsWay_2 ?_
  refine s_Vi (rest := []) dX5_readsWay_3 lk_X5_75 meX5_readsStop (ctX5_readsStop B fu a0 ha0 0 σ) kd_1 ⟨rfl, by decide⟩ rfl rfl ⟨rfl, rfl, by decide, by decide⟩ (Nat.le_of_ble_eq_true rfl) (fun x1 s1 => ?_)
  refine s_jn (fun (j1 : Mem → PR) => ∀ (s12 : Mem), SX5_readsWay B X (j1 s12) s12 17 [] []) ?_ (fun j1 hj1 => ?_)
  · intro s2
    refine s_iconst dX5_readsWay_17 ?_
    exact s_zret hX dX5_readsWay_18
  · refine s_if_eq (tgt := 17) dX5_readsWay_6 (by decide) ?_ ?_
    · exact s_sub [] rfl (hj1 s1)
    · refine s_aload_n 0 dX5_readsWay_9 rfl rfl ?_
      refine s_aload_n 1 dX5_readsWay_10 rfl rfl ?_
      refine s_Vi (rest := []) dX5_readsWay_11 lk_X5_91 meX5_readsStep (ctX5_readsStep B fu a0 ha0 s1) kd_1 ⟨rfl, by decide⟩ rfl rfl ⟨rfl, rfl, by decide, by decide⟩ (Nat.le_of_ble_eq_true rfl) (fun x2 s3 => ?_)
      refine s_if_ne (tgt := 19) dX5_readsWay_14 (by decide) ?_ ?_
      · refine s_iconst dX5_readsWay_19 ?_
        refine s_istore_n (lv' := [(2, iv 1), (0, rv B 1), (1, rv B a0)]) dX5_readsWay_20 rfl (by decide) rfl ?_
        refine s_sub [1, 2, 0] (lv' := [(0, rv B 1), (1, rv B a0), (2, iv 1)]) rfl ?_
        refine fX5_readsWay_L21_s hX a0 ha0 _ ?_ _ ?_ fu 1 s3
        · intro s10
          refine s_iconst dX5_readsWay_52 ?_
          exact s_zret hX dX5_readsWay_53
        · intro s11
          refine s_iconst dX5_readsWay_44 ?_
          exact s_zret hX dX5_readsWay_45
      · exact s_sub [] rfl (hj1 s3)
abbrev rmX5_readsLine : Room := { frames := 4, cells := 0, slots := 0, locals := 87 }
abbrev SX5_readsLine (B : Nat) (X : Ctx) := Sim cX5_readsLine RX5 5 rmX5_readsLine B X
set_option maxHeartbeats 4000000 in
set_option maxRecDepth 100000 in
theorem ctX5_readsLine (B fu : Nat) (a0 : Int) (σ : Mem) : CtI yX5_readsLine cX5_readsLine 5 (some .boolean) rmX5_readsLine B [rv B 1, iv a0] σ (fX5_readsLine fu a0 σ) := by
  refine ctI_intro (own := RX5) (lv := [(0, rv B 1), (1, iv a0)]) (by decide +kernel) rfl (Nat.le_of_ble_eq_true rfl) rfl (fun X hX => ?_)
  unfold fX5_readsLine
  refine s_aload_n 0 dX5_readsLine_0 rfl rfl ?_
  refine s_geti dX5_readsLine_1 ly5 fl_X5_38 kd_1 rfl ?_
  refine s_lti (fun x1 => ?_)
  refine s_istore_n (lv' := [(2, iv x1), (0, rv B 1), (1, iv a0)]) dX5_readsLine_4 rfl (by decide) rfl ?_
  refine s_aload_n 1 dX5_readsLine_5 rfl rfl ?_
  refine s_geti dX5_readsLine_6 ly5 fl_X5_45 kd_1 rfl ?_
  refine s_iload_n 2 dX5_readsLine_9 rfl rfl ?_
  refine s_jn (fun (j1 : Mem → PR) => ∀ (s20 : Mem), SX5_readsLine B X (j1 s20) s20 22 [(0, rv B 1), (2, iv x1)] []) ?_ (fun j1 hj1 => ?_)
  · intro s1
    refine s_aload_n 0 dX5_readsLine_22 rfl rfl ?_
    refine s_iload_n 1 dX5_readsLine_23 rfl rfl ?_
    refine s_Vi (rest := []) dX5_readsLine_24 lk_X5_51 meX5_fails (ctX5_fails B fu x1 s1) kd_1 ⟨rfl, by decide⟩ rfl rfl ⟨rfl, rfl, by decide, by decide⟩ (Nat.le_of_ble_eq_true rfl) (fun x2 s2 => ?_)
    exact s_zret hX dX5_readsLine_27
  · refine s_icmp_ge (tgt := 22) dX5_readsLine_10 (by decide) ?_ ?_
    · exact s_sub [1, 0] rfl (hj1 σ)
    · refine s_aload_n 1 dX5_readsLine_13 rfl rfl ?_
      refine s_geti dX5_readsLine_14 ly5 fl_X5_45 kd_1 rfl ?_
      refine s_bipush dX5_readsLine_17 (by decide) ?_
      refine s_icmp_lt (tgt := 28) dX5_readsLine_19 (by decide) ?_ ?_
      · refine s_aload_n 1 dX5_readsLine_28 rfl rfl ?_
        refine s_bipush dX5_readsLine_29 (by decide) ?_
        refine s_Vi (rest := []) dX5_readsLine_31 lk_X5_72 meX5_readsNumber (ctX5_readsNumber B fu 60 σ) kd_1 ⟨rfl, by decide⟩ rfl rfl ⟨rfl, rfl, by decide, by decide⟩ (Nat.le_of_ble_eq_true rfl) (fun x3 s3 => ?_)
        refine s_if_ne (tgt := 39) dX5_readsLine_34 (by decide) ?_ ?_
        · refine s_aload_n 1 dX5_readsLine_39 rfl rfl ?_
          refine s_bipush dX5_readsLine_40 (by decide) ?_
          refine s_Vi (rest := []) dX5_readsLine_42 lk_X5_34 meX5_isNext (ctX5_isNext B fu 61 s3) kd_1 ⟨rfl, by decide⟩ rfl rfl ⟨rfl, rfl, by decide, by decide⟩ (Nat.le_of_ble_eq_true rfl) (fun x4 s4 => ?_)
          refine s_istore_n (lv' := [(3, iv x4), (2, iv x1), (0, rv B 1), (1, iv a0)]) dX5_readsLine_45 rfl (by decide) rfl ?_
          refine s_iload_n 0 dX5_readsLine_46 rfl rfl ?_
          refine s_jn (fun (j2 : Mem → PR) => ∀ (s19 : Mem), SX5_readsLine B X (j2 s19) s19 77 [(0, rv B 1), (3, iv x4)] []) ?_ (fun j2 hj2 => ?_)
          · intro s5
            refine s_aload_n 0 dX5_readsLine_77 rfl rfl ?_
            refine s_iload_n 1 dX5_readsLine_78 rfl rfl ?_
            refine s_jn (fun (j3 : Int → Mem → PR) => ∀ (x5 : Int) (s15 : Mem), SX5_readsLine B X (j3 x5 s15) s15 89 [(0, rv B 1), (3, iv x4)] [iv x5, rv B 1]) ?_ (fun j3 hj3 => ?_)
            · intro x5 s6
              refine s_Vi (rest := []) dX5_readsLine_89 lk_X5_69 meX5_readsSign (ctX5_readsSign B fu x5 s6) kd_1 ⟨rfl, by decide⟩ rfl rfl ⟨rfl, rfl, by decide, by decide⟩ (Nat.le_of_ble_eq_true rfl) (fun x6 s7 => ?_)
              refine s_if_ne (tgt := 97) dX5_readsLine_92 (by decide) ?_ ?_
              · refine s_aload_n 0 dX5_readsLine_97 rfl rfl ?_
                refine s_getd dX5_readsLine_98 ly5 fl_X5_19 kd_1 rfl rfl (fun p1 hp1 => ?_)
                refine s_aload_n 0 dX5_readsLine_101 rfl rfl ?_
                refine s_geti dX5_readsLine_102 ly5 fl_X5_45 kd_1 rfl ?_
                refine s_aald dX5_readsLine_105 hp1 (fun p2 hp2 => ?_)
                refine s_astore (lv' := [(4, rv B p2), (0, rv B 1), (3, iv x4)]) dX5_readsLine_106 (by decide) rfl ?_
                refine s_aload 0 dX5_readsLine_108 rfl ?_
                refine s_aload_n 1 dX5_readsLine_110 rfl rfl ?_
                refine s_geti dX5_readsLine_111 ly5 fl_X5_57 kd_1 rfl ?_
                refine s_Vv (rest := []) dX5_readsLine_114 lk_X5_79 meX1_renew (ctX1_renew B fu p2 hp2 (s7 1 6) s7) hp2 ⟨rfl, by decide⟩ rfl rfl ⟨rfl, rfl, by decide, by decide⟩ (Nat.le_of_ble_eq_true rfl) (fun _ s8 => ?_)
                refine s_aload_n 1 dX5_readsLine_117 rfl rfl ?_
                refine s_aload 0 dX5_readsLine_118 rfl ?_
                refine s_Vi (rest := []) dX5_readsLine_120 lk_X5_83 meX5_readsWay (ctX5_readsWay B fu p2 hp2 s8) kd_1 ⟨rfl, by decide⟩ rfl rfl ⟨rfl, rfl, by decide, by decide⟩ (Nat.le_of_ble_eq_true rfl) (fun x7 s9 => ?_)
                refine s_jn (fun (j4 : Int → Mem → PR) => ∀ (x8 : Int) (s14 : Mem), SX5_readsLine B X (j4 x8 s14) s14 141 [] [iv x8]) ?_ (fun j4 hj4 => ?_)
                · intro x8 s10
                  exact s_zret hX dX5_readsLine_141
                · refine s_jn (fun (j5 : Mem → PR) => ∀ (s13 : Mem), SX5_readsLine B X (j5 s13) s13 140 [] []) ?_ (fun j5 hj5 => ?_)
                  · intro s11
                    refine s_iconst dX5_readsLine_140 ?_
                    exact hj4 0 s11
                  · refine s_if_eq (tgt := 140) dX5_readsLine_123 (by decide) ?_ ?_
                    · exact s_sub [] rfl (hj5 s9)
                    · refine s_aload_n 1 dX5_readsLine_126 rfl rfl ?_
                      refine s_aload 0 dX5_readsLine_127 rfl ?_
                      refine s_iload_n 2 dX5_readsLine_129 rfl rfl ?_
                      refine s_Vi (rest := []) dX5_readsLine_130 lk_X5_87 meX5_keep (ctX5_keep B fu p2 hp2 x4 s9) kd_1 ⟨rfl, by decide⟩ rfl rfl ⟨rfl, rfl, by decide, by decide⟩ (Nat.le_of_ble_eq_true rfl) (fun x9 s12 => ?_)
                      refine s_if_eq (tgt := 140) dX5_readsLine_133 (by decide) ?_ ?_
                      · exact s_sub [] rfl (hj5 s12)
                      · refine s_iconst dX5_readsLine_136 ?_
                        refine s_goto (tgt := 141) dX5_readsLine_137 (by decide) ?_
                        exact s_sub [] rfl (hj4 1 s12)
              · refine s_iconst dX5_readsLine_95 ?_
                exact s_zret hX dX5_readsLine_96
            · refine s_if_eq (tgt := 87) dX5_readsLine_79 (by decide) ?_ ?_
              · refine s_bipush dX5_readsLine_87 (by decide) ?_
                exact hj3 58 s5
              · refine s_bipush dX5_readsLine_82 (by decide) ?_
                refine s_goto (tgt := 89) dX5_readsLine_84 (by decide) ?_
                exact hj3 61 s5
          · refine s_if_eq (tgt := 77) dX5_readsLine_47 (by decide) ?_ ?_
            · exact s_sub [2, 0] rfl (hj2 s4)
            · refine s_aload_n 2 dX5_readsLine_50 rfl rfl ?_
              refine s_geti dX5_readsLine_51 ly5 fl_X5_45 kd_1 rfl ?_
              refine s_iconst dX5_readsLine_54 ?_
              refine s_iadd dX5_readsLine_55 ?_
              refine s_iload_n 3 dX5_readsLine_56 rfl rfl ?_
              refine s_jn (fun (j6 : Mem → PR) => ∀ (s18 : Mem), SX5_readsLine B X (j6 s18) s18 71 [(0, rv B 1), (2, iv x1)] []) ?_ (fun j6 hj6 => ?_)
              · intro s16
                refine s_aload_n 0 dX5_readsLine_71 rfl rfl ?_
                refine s_iload_n 1 dX5_readsLine_72 rfl rfl ?_
                refine s_Vi (rest := []) dX5_readsLine_73 lk_X5_51 meX5_fails (ctX5_fails B fu x1 s16) kd_1 ⟨rfl, by decide⟩ rfl rfl ⟨rfl, rfl, by decide, by decide⟩ (Nat.le_of_ble_eq_true rfl) (fun x10 s17 => ?_)
                exact s_zret hX dX5_readsLine_76
              · refine s_icmp_ge (tgt := 71) dX5_readsLine_57 (by decide) ?_ ?_
                · exact s_sub [2, 1] rfl (hj6 s4)
                · refine s_aload_n 2 dX5_readsLine_60 rfl rfl ?_
                  refine s_geti dX5_readsLine_61 ly5 fl_X5_45 kd_1 rfl ?_
                  refine s_iconst dX5_readsLine_64 ?_
                  refine s_iadd dX5_readsLine_65 ?_
                  refine s_bipush dX5_readsLine_66 (by decide) ?_
                  refine s_icmp_lt (tgt := 77) dX5_readsLine_68 (by decide) ?_ ?_
                  · exact s_sub [2, 0] rfl (hj2 s4)
                  · exact s_sub [2, 1] rfl (hj6 s4)
        · refine s_iconst dX5_readsLine_37 ?_
          exact s_zret hX dX5_readsLine_38
      · exact s_sub [1, 0] rfl (hj1 σ)
abbrev rmX5_readsLines : Room := { frames := 5, cells := 0, slots := 0, locals := 111 }
abbrev SX5_readsLines (B : Nat) (X : Ctx) := Sim cX5_readsLines RX5 3 rmX5_readsLines B X
set_option maxHeartbeats 4000000 in
set_option maxRecDepth 100000 in
theorem fX5_readsLines_L22_s {B fu : Nat} {X : Ctx} (hX : CxI .boolean B X) (k64 : Int → Mem → PR) (hk64 : ∀ (x4 : Int) (s8 : Mem), SX5_readsLines B X (k64 x4 s8) s8 64 [(0, rv B 1), (1, iv x4)] []) : ∀ (n : Nat) (x2 : Int) (x3 : Int) (s7 : Mem), SX5_readsLines B X (fX5_readsLines_L22 fu k64 n x2 x3 s7) s7 22 [(0, rv B 1), (1, iv x2), (2, iv x3)] [] := by
  intro n
  induction n with
  | zero => intro _ _ _; exact s_none
  | succ n ih =>
    intro x2 x3 s3
    rw [fX5_readsLines_L22]
    refine s_iload_n 2 dX5_readsLines_22 rfl rfl ?_
    refine s_bipush dX5_readsLines_23 (by decide) ?_
    refine s_icmp_gt (tgt := 64) dX5_readsLines_25 (by decide) ?_ ?_
    · exact s_sub [0, 1] rfl (hk64 x2 s3)
    · refine s_iload_n 1 dX5_readsLines_28 rfl rfl ?_
      refine s_if_eq (tgt := 64) dX5_readsLines_29 (by decide) ?_ ?_
      · exact s_sub [0, 1] rfl (hk64 x2 s3)
      · refine s_aload_n 0 dX5_readsLines_32 rfl rfl ?_
        refine s_bipush dX5_readsLines_33 (by decide) ?_
        refine s_Vi (rest := []) dX5_readsLines_35 lk_X5_34 meX5_isNext (ctX5_isNext B fu 59 s3) kd_1 ⟨rfl, by decide⟩ rfl rfl ⟨rfl, rfl, by decide, by decide⟩ (Nat.le_of_ble_eq_true rfl) (fun x5 s4 => ?_)
        refine s_if_eq (tgt := 64) dX5_readsLines_38 (by decide) ?_ ?_
        · exact s_sub [0, 1] rfl (hk64 x2 s4)
        · refine s_aload_n 0 dX5_readsLines_41 rfl rfl ?_
          refine s_dup dX5_readsLines_42 rfl ?_
          refine s_geti dX5_readsLines_43 ly5 fl_X5_38 kd_1 rfl ?_
          refine s_iconst dX5_readsLines_46 ?_
          refine s_iadd dX5_readsLines_47 ?_
          refine s_puti dX5_readsLines_48 ly5 ty5 fl_X5_38 kd_1 rfl po5_5 ⟨rfl, rfl, by decide⟩ (fun s5 => ?_)
          refine s_aload_n 0 dX5_readsLines_51 rfl rfl ?_
          refine s_bipush dX5_readsLines_52 (by decide) ?_
          refine s_Vi (rest := []) dX5_readsLines_54 lk_X5_30 meX5_readsLine (ctX5_readsLine B fu 12 s5) kd_1 ⟨rfl, by decide⟩ rfl rfl ⟨rfl, rfl, by decide, by decide⟩ (Nat.le_of_ble_eq_true rfl) (fun x6 s6 => ?_)
          refine s_istore_n (lv' := [(1, iv x6), (0, rv B 1), (2, iv x3)]) dX5_readsLines_57 rfl (by decide) rfl ?_
          refine s_iinc (lv' := [(2, iv (x3 + 1)), (1, iv x6), (0, rv B 1)]) 2 dX5_readsLines_58 rfl (by decide) rfl ?_
          refine s_goto (tgt := 22) dX5_readsLines_61 (by decide) ?_
          exact s_sub [2, 1, 0] rfl (ih x6 (x3 + 1) s6)
set_option maxHeartbeats 4000000 in
set_option maxRecDepth 100000 in
theorem ctX5_readsLines (B fu : Nat) (σ : Mem) : CtI yX5_readsLines cX5_readsLines 3 (some .boolean) rmX5_readsLines B [rv B 1] σ (fX5_readsLines fu σ) := by
  refine ctI_intro (own := RX5) (lv := [(0, rv B 1)]) (by decide +kernel) rfl (Nat.le_of_ble_eq_true rfl) rfl (fun X hX => ?_)
  unfold fX5_readsLines
  refine s_aload_n 0 dX5_readsLines_0 rfl rfl ?_
  refine s_Vv (rest := []) dX5_readsLines_1 lk_X5_27 meX5_begin (ctX5_begin B fu σ) kd_1 ⟨rfl, by decide⟩ rfl rfl ⟨rfl, rfl, by decide, by decide⟩ (Nat.le_of_ble_eq_true rfl) (fun _ s1 => ?_)
  refine s_aload_n 0 dX5_readsLines_4 rfl rfl ?_
  refine s_geti dX5_readsLines_5 ly5 fl_X5_23 kd_1 rfl ?_
  refine s_if_ne (tgt := 13) dX5_readsLines_8 (by decide) ?_ ?_
  · refine s_aload_n 0 dX5_readsLines_13 rfl rfl ?_
    refine s_bipush dX5_readsLines_14 (by decide) ?_
    refine s_Vi (rest := []) dX5_readsLines_16 lk_X5_30 meX5_readsLine (ctX5_readsLine B fu 12 s1) kd_1 ⟨rfl, by decide⟩ rfl rfl ⟨rfl, rfl, by decide, by decide⟩ (Nat.le_of_ble_eq_true rfl) (fun x1 s2 => ?_)
    refine s_istore_n (lv' := [(1, iv x1), (0, rv B 1)]) dX5_readsLines_19 rfl (by decide) rfl ?_
    refine s_iconst dX5_readsLines_20 ?_
    refine s_istore_n (lv' := [(2, iv 1), (1, iv x1), (0, rv B 1)]) dX5_readsLines_21 rfl (by decide) rfl ?_
    refine s_sub [2, 1, 0] (lv' := [(0, rv B 1), (1, iv x1), (2, iv 1)]) rfl ?_
    refine fX5_readsLines_L22_s hX _ ?_ fu x1 1 s2
    intro x7 s9
    refine s_iload_n 1 dX5_readsLines_64 rfl rfl ?_
    refine s_jn (fun (j1 : Int → Mem → PR) => ∀ (x8 : Int) (s14 : Mem), SX5_readsLines B X (j1 x8 s14) s14 80 [] [iv x8]) ?_ (fun j1 hj1 => ?_)
    · intro x8 s10
      exact s_zret hX dX5_readsLines_80
    · refine s_jn (fun (j2 : Mem → PR) => ∀ (s13 : Mem), SX5_readsLines B X (j2 s13) s13 79 [] []) ?_ (fun j2 hj2 => ?_)
      · intro s11
        refine s_iconst dX5_readsLines_79 ?_
        exact hj1 0 s11
      · refine s_if_eq (tgt := 79) dX5_readsLines_65 (by decide) ?_ ?_
        · exact s_sub [] rfl (hj2 s9)
        · refine s_aload_n 0 dX5_readsLines_68 rfl rfl ?_
          refine s_Vi (rest := []) dX5_readsLines_69 lk_X5_41 meX5_readsEnd (ctX5_readsEnd B fu s9) kd_1 ⟨rfl, by decide⟩ rfl rfl ⟨rfl, rfl, by decide, by decide⟩ (Nat.le_of_ble_eq_true rfl) (fun x9 s12 => ?_)
          refine s_if_eq (tgt := 79) dX5_readsLines_72 (by decide) ?_ ?_
          · exact s_sub [] rfl (hj2 s12)
          · refine s_iconst dX5_readsLines_75 ?_
            refine s_goto (tgt := 80) dX5_readsLines_76 (by decide) ?_
            exact s_sub [] rfl (hj1 1 s12)
  · refine s_iconst dX5_readsLines_11 ?_
    exact s_zret hX dX5_readsLines_12
abbrev rmX5_readsOneLine : Room := { frames := 5, cells := 0, slots := 0, locals := 111 }
abbrev SX5_readsOneLine (B : Nat) (X : Ctx) := Sim cX5_readsOneLine RX5 2 rmX5_readsOneLine B X
set_option maxHeartbeats 4000000 in
set_option maxRecDepth 100000 in
theorem ctX5_readsOneLine (B fu : Nat) (a0 : Int) (σ : Mem) : CtI yX5_readsOneLine cX5_readsOneLine 2 (some .boolean) rmX5_readsOneLine B [rv B 1, iv a0] σ (fX5_readsOneLine fu a0 σ) := by
  refine ctI_intro (own := RX5) (lv := [(0, rv B 1), (1, iv a0)]) (by decide +kernel) rfl (Nat.le_of_ble_eq_true rfl) rfl (fun X hX => ?_)
  unfold fX5_readsOneLine
  refine s_aload_n 0 dX5_readsOneLine_0 rfl rfl ?_
  refine s_Vv (rest := []) dX5_readsOneLine_1 lk_X5_27 meX5_begin (ctX5_begin B fu σ) kd_1 ⟨rfl, by decide⟩ rfl rfl ⟨rfl, rfl, by decide, by decide⟩ (Nat.le_of_ble_eq_true rfl) (fun _ s1 => ?_)
  refine s_aload_n 0 dX5_readsOneLine_4 rfl rfl ?_
  refine s_iload_n 1 dX5_readsOneLine_5 rfl rfl ?_
  refine s_Vi (rest := []) dX5_readsOneLine_6 lk_X5_30 meX5_readsLine (ctX5_readsLine B fu a0 s1) kd_1 ⟨rfl, by decide⟩ rfl rfl ⟨rfl, rfl, by decide, by decide⟩ (Nat.le_of_ble_eq_true rfl) (fun x1 s2 => ?_)
  refine s_jn (fun (j1 : Int → Mem → PR) => ∀ (x2 : Int) (s7 : Mem), SX5_readsOneLine B X (j1 x2 s7) s7 24 [] [iv x2]) ?_ (fun j1 hj1 => ?_)
  · intro x2 s3
    exact s_zret hX dX5_readsOneLine_24
  · refine s_jn (fun (j2 : Mem → PR) => ∀ (s6 : Mem), SX5_readsOneLine B X (j2 s6) s6 23 [] []) ?_ (fun j2 hj2 => ?_)
    · intro s4
      refine s_iconst dX5_readsOneLine_23 ?_
      exact hj1 0 s4
    · refine s_if_eq (tgt := 23) dX5_readsOneLine_9 (by decide) ?_ ?_
      · exact s_sub [] rfl (hj2 s2)
      · refine s_aload_n 0 dX5_readsOneLine_12 rfl rfl ?_
        refine s_Vi (rest := []) dX5_readsOneLine_13 lk_X5_41 meX5_readsEnd (ctX5_readsEnd B fu s2) kd_1 ⟨rfl, by decide⟩ rfl rfl ⟨rfl, rfl, by decide, by decide⟩ (Nat.le_of_ble_eq_true rfl) (fun x3 s5 => ?_)
        refine s_if_eq (tgt := 23) dX5_readsOneLine_16 (by decide) ?_ ?_
        · exact s_sub [] rfl (hj2 s5)
        · refine s_iconst dX5_readsOneLine_19 ?_
          refine s_goto (tgt := 24) dX5_readsOneLine_20 (by decide) ?_
          exact s_sub [] rfl (hj1 1 s5)
abbrev rmX6_sign : Room := { frames := 1, cells := 0, slots := 0, locals := 22 }
abbrev SX6_sign (B : Nat) (X : Ctx) := Sim cX6_sign RX6 2 rmX6_sign B X
set_option maxHeartbeats 4000000 in
set_option maxRecDepth 100000 in
theorem ctX6_sign (B fu : Nat) (a0 : Int) (σ : Mem) : CtI yX6_sign cX6_sign 2 (some .int) rmX6_sign B [rv B 0, iv a0] σ (fX6_sign fu a0 σ) := by
  refine ctI_intro (own := RX6) (lv := [(0, rv B 0), (1, iv a0)]) (by decide +kernel) rfl (Nat.le_of_ble_eq_true rfl) rfl (fun X hX => ?_)
  unfold fX6_sign
  refine s_aload_n 0 dX6_sign_0 rfl rfl ?_
  refine s_getr (n := 0) (k' := 1) dX6_sign_1 ly6 fl_X6_10 kd_0 rfl rfl rfl ?_
  refine s_iload_n 1 dX6_sign_4 rfl rfl ?_
  refine s_Vi (rest := []) dX6_sign_5 lk_X6_37 meX5_addsFour (ctX5_addsFour B fu a0 σ) kd_1 ⟨rfl, by decide⟩ rfl rfl ⟨rfl, rfl, by decide, by decide⟩ (Nat.le_of_ble_eq_true rfl) (fun x1 s1 => ?_)
  refine s_jn (fun (j1 : Int → Mem → PR) => ∀ (x2 : Int) (s3 : Mem), SX6_sign B X (j1 x2 s3) s3 22 [] [iv x2]) ?_ (fun j1 hj1 => ?_)
  · intro x2 s2
    exact s_iret hX dX6_sign_22
  · refine s_if_eq (tgt := 21) dX6_sign_8 (by decide) ?_ ?_
    · refine s_iconst dX6_sign_21 ?_
      exact s_sub [] rfl (hj1 (-1) s1)
    · refine s_aload_n 0 dX6_sign_11 rfl rfl ?_
      refine s_getr (n := 0) (k' := 1) dX6_sign_12 ly6 fl_X6_10 kd_0 rfl rfl rfl ?_
      refine s_geti dX6_sign_15 ly5 fl_X6_41 kd_1 rfl ?_
      refine s_goto (tgt := 22) dX6_sign_18 (by decide) ?_
      exact s_sub [] rfl (hj1 (s1 1 1) s1)
abbrev rmX6_end : Room := { frames := 0, cells := 0, slots := 0, locals := 0 }
abbrev SX6_end (B : Nat) (X : Ctx) := Sim cX6_end RX6 2 rmX6_end B X
set_option maxHeartbeats 4000000 in
set_option maxRecDepth 100000 in
theorem ctX6_end (B fu : Nat) (a0 : Int) (σ : Mem) : CtI yX6_end cX6_end 2 (some .boolean) rmX6_end B [rv B 0, iv a0] σ (fX6_end fu a0 σ) := by
  refine ctI_intro (own := RX6) (lv := [(0, rv B 0), (1, iv a0)]) (by decide +kernel) rfl (Nat.le_of_ble_eq_true rfl) rfl (fun X hX => ?_)
  unfold fX6_end
  refine s_iload_n 1 dX6_end_0 rfl rfl ?_
  refine s_jn (fun (j1 : Mem → PR) => ∀ (s3 : Mem), SX6_end B X (j1 s3) s3 15 [] []) ?_ (fun j1 hj1 => ?_)
  · intro s1
    refine s_iconst dX6_end_15 ?_
    exact s_zret hX dX6_end_16
  · refine s_if_lt (tgt := 15) dX6_end_1 (by decide) ?_ ?_
    · exact s_sub [] rfl (hj1 σ)
    · refine s_iload_n 1 dX6_end_4 rfl rfl ?_
      refine s_aload_n 0 dX6_end_5 rfl rfl ?_
      refine s_getr (n := 0) (k' := 1) dX6_end_6 ly6 fl_X6_10 kd_0 rfl rfl rfl ?_
      refine s_geti dX6_end_9 ly5 fl_X6_41 kd_1 rfl ?_
      refine s_icmp_le (tgt := 17) dX6_end_12 (by decide) ?_ ?_
      · refine s_aload_n 0 dX6_end_17 rfl rfl ?_
        refine s_getr (n := 0) (k' := 1) dX6_end_18 ly6 fl_X6_10 kd_0 rfl rfl rfl ?_
        refine s_iload_n 1 dX6_end_21 rfl rfl ?_
        refine s_puti dX6_end_22 ly5 ty5 fl_X6_41 kd_1 rfl po5_1 ⟨rfl, rfl, by decide⟩ (fun s2 => ?_)
        refine s_iconst dX6_end_25 ?_
        exact s_zret hX dX6_end_26
      · exact s_sub [] rfl (hj1 σ)
abbrev rmX6_net : Room := { frames := 6, cells := 0, slots := 0, locals := 133 }
abbrev SX6_net (B : Nat) (X : Ctx) := Sim cX6_net RX6 2 rmX6_net B X
set_option maxHeartbeats 4000000 in
set_option maxRecDepth 100000 in
theorem ctX6_net (B fu : Nat) (σ : Mem) : CtI yX6_net cX6_net 2 (some .int) rmX6_net B [rv B 0] σ (fX6_net fu σ) := by
  refine ctI_intro (own := RX6) (lv := [(0, rv B 0)]) (by decide +kernel) rfl (Nat.le_of_ble_eq_true rfl) rfl (fun X hX => ?_)
  unfold fX6_net
  refine s_aload_n 0 dX6_net_0 rfl rfl ?_
  refine s_getr (n := 0) (k' := 1) dX6_net_1 ly6 fl_X6_10 kd_0 rfl rfl rfl ?_
  refine s_Vi (rest := []) dX6_net_4 lk_X6_45 meX5_readsLines (ctX5_readsLines B fu σ) kd_1 ⟨rfl, by decide⟩ rfl rfl ⟨rfl, rfl, by decide, by decide⟩ (Nat.le_of_ble_eq_true rfl) (fun x1 s1 => ?_)
  refine s_istore_n (lv' := [(1, iv x1), (0, rv B 0)]) dX6_net_7 rfl (by decide) rfl ?_
  refine s_aload_n 1 dX6_net_8 rfl rfl ?_
  refine s_getr (n := 0) (k' := 1) dX6_net_9 ly6 fl_X6_10 kd_0 rfl rfl rfl ?_
  refine s_iconst dX6_net_12 ?_
  refine s_puti dX6_net_13 ly5 ty5 fl_X6_41 kd_1 rfl po5_1 ⟨rfl, rfl, by decide⟩ (fun s2 => ?_)
  refine s_iload_n 0 dX6_net_16 rfl rfl ?_
  refine s_if_ne (tgt := 31) dX6_net_17 (by decide) ?_ ?_
  · refine s_aload_n 1 dX6_net_31 rfl rfl ?_
    refine s_getr (n := 135) (k' := 136) dX6_net_32 ly6 fl_X6_19 kd_0 rfl rfl rfl ?_
    refine s_aload_n 1 dX6_net_35 rfl rfl ?_
    refine s_getr (n := 0) (k' := 1) dX6_net_36 ly6 fl_X6_10 kd_0 rfl rfl rfl ?_
    refine s_Vv (rest := []) dX6_net_39 lk_X6_52 meX2_replaceLines (ctX2_replaceLines B fu s2) kd_136 ⟨rfl, by decide⟩ rfl rfl ⟨rfl, rfl, by decide, by decide⟩ (Nat.le_of_ble_eq_true rfl) (fun _ s3 => ?_)
    refine s_aload_n 1 dX6_net_42 rfl rfl ?_
    refine s_getr (n := 135) (k' := 136) dX6_net_43 ly6 fl_X6_19 kd_0 rfl rfl rfl ?_
    refine s_geti dX6_net_46 ly2 fl_X6_56 kd_136 rfl ?_
    exact s_iret hX dX6_net_49
  · refine s_bipush dX6_net_20 (by decide) ?_
    refine s_aload_n 1 dX6_net_22 rfl rfl ?_
    refine s_getr (n := 0) (k' := 1) dX6_net_23 ly6 fl_X6_10 kd_0 rfl rfl rfl ?_
    refine s_geti dX6_net_26 ly5 fl_X6_49 kd_1 rfl ?_
    refine s_isub dX6_net_29 ?_
    exact s_iret hX dX6_net_30
abbrev rmX6_adds : Room := { frames := 6, cells := 0, slots := 0, locals := 132 }
abbrev SX6_adds (B : Nat) (X : Ctx) := Sim cX6_adds RX6 2 rmX6_adds B X
set_option maxHeartbeats 4000000 in
set_option maxRecDepth 100000 in
theorem ctX6_adds (B fu : Nat) (σ : Mem) : CtI yX6_adds cX6_adds 2 (some .int) rmX6_adds B [rv B 0] σ (fX6_adds fu σ) := by
  refine ctI_intro (own := RX6) (lv := [(0, rv B 0)]) (by decide +kernel) rfl (Nat.le_of_ble_eq_true rfl) rfl (fun X hX => ?_)
  unfold fX6_adds
  refine s_aload_n 0 dX6_adds_0 rfl rfl ?_
  refine s_getr (n := 0) (k' := 1) dX6_adds_1 ly6 fl_X6_10 kd_0 rfl rfl rfl ?_
  refine s_bipush dX6_adds_4 (by decide) ?_
  refine s_aload_n 0 dX6_adds_6 rfl rfl ?_
  refine s_getr (n := 135) (k' := 136) dX6_adds_7 ly6 fl_X6_19 kd_0 rfl rfl rfl ?_
  refine s_geti dX6_adds_10 ly2 fl_X6_56 kd_136 rfl ?_
  refine s_isub dX6_adds_13 ?_
  refine s_Vi (rest := []) dX6_adds_14 lk_X6_59 meX5_readsOneLine (ctX5_readsOneLine B fu (12 - (σ 136 1)) σ) kd_1 ⟨rfl, by decide⟩ rfl rfl ⟨rfl, rfl, by decide, by decide⟩ (Nat.le_of_ble_eq_true rfl) (fun x1 s1 => ?_)
  refine s_istore_n (lv' := [(1, iv x1), (0, rv B 0)]) dX6_adds_17 rfl (by decide) rfl ?_
  refine s_aload_n 1 dX6_adds_18 rfl rfl ?_
  refine s_getr (n := 0) (k' := 1) dX6_adds_19 ly6 fl_X6_10 kd_0 rfl rfl rfl ?_
  refine s_iconst dX6_adds_22 ?_
  refine s_puti dX6_adds_23 ly5 ty5 fl_X6_41 kd_1 rfl po5_1 ⟨rfl, rfl, by decide⟩ (fun s2 => ?_)
  refine s_iload_n 0 dX6_adds_26 rfl rfl ?_
  refine s_if_ne (tgt := 41) dX6_adds_27 (by decide) ?_ ?_
  · refine s_aload_n 1 dX6_adds_41 rfl rfl ?_
    refine s_getr (n := 135) (k' := 136) dX6_adds_42 ly6 fl_X6_19 kd_0 rfl rfl rfl ?_
    refine s_aload_n 1 dX6_adds_45 rfl rfl ?_
    refine s_getr (n := 0) (k' := 1) dX6_adds_46 ly6 fl_X6_10 kd_0 rfl rfl rfl ?_
    refine s_Vv (rest := []) dX6_adds_49 lk_X6_62 meX2_appendLines (ctX2_appendLines B fu s2) kd_136 ⟨rfl, by decide⟩ rfl rfl ⟨rfl, rfl, by decide, by decide⟩ (Nat.le_of_ble_eq_true rfl) (fun _ s3 => ?_)
    refine s_aload_n 1 dX6_adds_52 rfl rfl ?_
    refine s_getr (n := 135) (k' := 136) dX6_adds_53 ly6 fl_X6_19 kd_0 rfl rfl rfl ?_
    refine s_geti dX6_adds_56 ly2 fl_X6_56 kd_136 rfl ?_
    exact s_iret hX dX6_adds_59
  · refine s_bipush dX6_adds_30 (by decide) ?_
    refine s_aload_n 1 dX6_adds_32 rfl rfl ?_
    refine s_getr (n := 0) (k' := 1) dX6_adds_33 ly6 fl_X6_10 kd_0 rfl rfl rfl ?_
    refine s_geti dX6_adds_36 ly5 fl_X6_49 kd_1 rfl ?_
    refine s_isub dX6_adds_39 ?_
    exact s_iret hX dX6_adds_40
abbrev rmX6_drops : Room := { frames := 1, cells := 0, slots := 0, locals := 23 }
abbrev SX6_drops (B : Nat) (X : Ctx) := Sim cX6_drops RX6 2 rmX6_drops B X
set_option maxHeartbeats 4000000 in
set_option maxRecDepth 100000 in
theorem ctX6_drops (B fu : Nat) (a0 : Int) (σ : Mem) : CtI yX6_drops cX6_drops 2 (some .int) rmX6_drops B [rv B 0, iv a0] σ (fX6_drops fu a0 σ) := by
  refine ctI_intro (own := RX6) (lv := [(0, rv B 0), (1, iv a0)]) (by decide +kernel) rfl (Nat.le_of_ble_eq_true rfl) rfl (fun X hX => ?_)
  unfold fX6_drops
  refine s_aload_n 0 dX6_drops_0 rfl rfl ?_
  refine s_getr (n := 135) (k' := 136) dX6_drops_1 ly6 fl_X6_19 kd_0 rfl rfl rfl ?_
  refine s_iload_n 1 dX6_drops_4 rfl rfl ?_
  refine s_Vi (rest := []) dX6_drops_5 lk_X6_65 meX2_hasLine (ctX2_hasLine B fu a0 σ) kd_136 ⟨rfl, by decide⟩ rfl rfl ⟨rfl, rfl, by decide, by decide⟩ (Nat.le_of_ble_eq_true rfl) (fun x1 s1 => ?_)
  refine s_if_ne (tgt := 13) dX6_drops_8 (by decide) ?_ ?_
  · refine s_aload_n 0 dX6_drops_13 rfl rfl ?_
    refine s_getr (n := 135) (k' := 136) dX6_drops_14 ly6 fl_X6_19 kd_0 rfl rfl rfl ?_
    refine s_iload_n 1 dX6_drops_17 rfl rfl ?_
    refine s_Vv (rest := []) dX6_drops_18 lk_X6_68 meX2_removeLine (ctX2_removeLine B fu a0 s1) kd_136 ⟨rfl, by decide⟩ rfl rfl ⟨rfl, rfl, by decide, by decide⟩ (Nat.le_of_ble_eq_true rfl) (fun _ s2 => ?_)
    refine s_aload_n 0 dX6_drops_21 rfl rfl ?_
    refine s_getr (n := 135) (k' := 136) dX6_drops_22 ly6 fl_X6_19 kd_0 rfl rfl rfl ?_
    refine s_geti dX6_drops_25 ly2 fl_X6_56 kd_136 rfl ?_
    exact s_iret hX dX6_drops_28
  · refine s_iconst dX6_drops_11 ?_
    exact s_iret hX dX6_drops_12
abbrev rmX6_waiting : Room := { frames := 0, cells := 0, slots := 0, locals := 0 }
abbrev SX6_waiting (B : Nat) (X : Ctx) := Sim cX6_waiting RX6 3 rmX6_waiting B X
set_option maxHeartbeats 4000000 in
set_option maxRecDepth 100000 in
theorem ctX6_waiting (B fu : Nat) (a0 : Int) (σ : Mem) : CtI yX6_waiting cX6_waiting 3 (some .int) rmX6_waiting B [rv B 0, iv a0] σ (fX6_waiting fu a0 σ) := by
  refine ctI_intro (own := RX6) (lv := [(0, rv B 0), (1, iv a0)]) (by decide +kernel) rfl (Nat.le_of_ble_eq_true rfl) rfl (fun X hX => ?_)
  unfold fX6_waiting
  refine s_iload_n 1 dX6_waiting_0 rfl rfl ?_
  refine s_iconst dX6_waiting_1 ?_
  refine s_jn (fun (j1 : Mem → PR) => ∀ (s3 : Mem), SX6_waiting B X (j1 s3) s3 11 [] []) ?_ (fun j1 hj1 => ?_)
  · intro s1
    refine s_iconst dX6_waiting_11 ?_
    exact s_iret hX dX6_waiting_12
  · refine s_icmp_lt (tgt := 11) dX6_waiting_2 (by decide) ?_ ?_
    · exact s_sub [] rfl (hj1 σ)
    · refine s_iload_n 1 dX6_waiting_5 rfl rfl ?_
      refine s_bipush dX6_waiting_6 (by decide) ?_
      refine s_icmp_le (tgt := 13) dX6_waiting_8 (by decide) ?_ ?_
      · refine s_aload_n 0 dX6_waiting_13 rfl rfl ?_
        refine s_getr (n := 135) (k' := 136) dX6_waiting_14 ly6 fl_X6_19 kd_0 rfl rfl rfl ?_
        refine s_geti dX6_waiting_17 ly2 fl_X6_72 kd_136 rfl ?_
        refine s_lti (fun x1 => ?_)
        refine s_istore_n (lv' := [(2, iv x1), (0, rv B 0), (1, iv a0)]) dX6_waiting_20 rfl (by decide) rfl ?_
        refine s_aload_n 1 dX6_waiting_21 rfl rfl ?_
        refine s_getr (n := 135) (k' := 136) dX6_waiting_22 ly6 fl_X6_19 kd_0 rfl rfl rfl ?_
        refine s_iload_n 2 dX6_waiting_25 rfl rfl ?_
        refine s_puti dX6_waiting_26 ly2 ty2 fl_X6_72 kd_136 rfl po2_3 ⟨rfl, rfl, by decide⟩ (fun s2 => ?_)
        refine s_iload_n 0 dX6_waiting_29 rfl rfl ?_
        exact s_iret hX dX6_waiting_30
      · exact s_sub [] rfl (hj1 σ)
abbrev rmX6_isStop : Room := { frames := 0, cells := 0, slots := 0, locals := 0 }
abbrev SX6_isStop (B : Nat) (X : Ctx) := Sim cX6_isStop RX6 1 rmX6_isStop B X
set_option maxHeartbeats 4000000 in
set_option maxRecDepth 100000 in
theorem ctX6_isStop (B fu : Nat) (a0 : Int) (σ : Mem) : CtI yX6_isStop cX6_isStop 1 (some .boolean) rmX6_isStop B [iv a0] σ (fX6_isStop fu a0 σ) := by
  refine ctI_intro (own := RX6) (lv := [(0, iv a0)]) (by decide +kernel) rfl (Nat.le_of_ble_eq_true rfl) rfl (fun X hX => ?_)
  unfold fX6_isStop
  refine s_iload_n 0 dX6_isStop_0 rfl rfl ?_
  refine s_jn (fun (j1 : Int → Mem → PR) => ∀ (x1 : Int) (s4 : Mem), SX6_isStop B X (j1 x1 s4) s4 15 [] [iv x1]) ?_ (fun j1 hj1 => ?_)
  · intro x1 s1
    exact s_zret hX dX6_isStop_15
  · refine s_jn (fun (j2 : Mem → PR) => ∀ (s3 : Mem), SX6_isStop B X (j2 s3) s3 14 [] []) ?_ (fun j2 hj2 => ?_)
    · intro s2
      refine s_iconst dX6_isStop_14 ?_
      exact hj1 0 s2
    · refine s_if_lt (tgt := 14) dX6_isStop_1 (by decide) ?_ ?_
      · exact s_sub [] rfl (hj2 σ)
      · refine s_iload_n 0 dX6_isStop_4 rfl rfl ?_
        refine s_bipush dX6_isStop_5 (by decide) ?_
        refine s_icmp_ge (tgt := 14) dX6_isStop_7 (by decide) ?_ ?_
        · exact s_sub [] rfl (hj2 σ)
        · refine s_iconst dX6_isStop_10 ?_
          refine s_goto (tgt := 15) dX6_isStop_11 (by decide) ?_
          exact s_sub [] rfl (hj1 1 σ)
abbrev rmX6_goal : Room := { frames := 1, cells := 0, slots := 0, locals := 20 }
abbrev SX6_goal (B : Nat) (X : Ctx) := Sim cX6_goal RX6 3 rmX6_goal B X
set_option maxHeartbeats 4000000 in
set_option maxRecDepth 100000 in
theorem ctX6_goal (B fu : Nat) (a0 : Int) (σ : Mem) : CtI yX6_goal cX6_goal 3 (some .int) rmX6_goal B [rv B 0, iv a0] σ (fX6_goal fu a0 σ) := by
  refine ctI_intro (own := RX6) (lv := [(0, rv B 0), (1, iv a0)]) (by decide +kernel) rfl (Nat.le_of_ble_eq_true rfl) rfl (fun X hX => ?_)
  unfold fX6_goal
  refine s_iload_n 1 dX6_goal_0 rfl rfl ?_
  refine s_Si (rest := []) dX6_goal_1 lk_X6_75 meX6_isStop (ctX6_isStop B fu a0 σ) rfl rfl ⟨rfl, rfl, by decide, by decide⟩ (Nat.le_of_ble_eq_true rfl) (fun x1 s1 => ?_)
  refine s_if_ne (tgt := 9) dX6_goal_4 (by decide) ?_ ?_
  · refine s_aload_n 0 dX6_goal_9 rfl rfl ?_
    refine s_getr (n := 135) (k' := 136) dX6_goal_10 ly6 fl_X6_19 kd_0 rfl rfl rfl ?_
    refine s_geti dX6_goal_13 ly2 fl_X6_78 kd_136 rfl ?_
    refine s_lti (fun x2 => ?_)
    refine s_istore_n (lv' := [(2, iv x2), (0, rv B 0), (1, iv a0)]) dX6_goal_16 rfl (by decide) rfl ?_
    refine s_aload_n 1 dX6_goal_17 rfl rfl ?_
    refine s_getr (n := 135) (k' := 136) dX6_goal_18 ly6 fl_X6_19 kd_0 rfl rfl rfl ?_
    refine s_iload_n 2 dX6_goal_21 rfl rfl ?_
    refine s_puti dX6_goal_22 ly2 ty2 fl_X6_78 kd_136 rfl po2_4 ⟨rfl, rfl, by decide⟩ (fun s2 => ?_)
    refine s_iload_n 0 dX6_goal_25 rfl rfl ?_
    exact s_iret hX dX6_goal_26
  · refine s_iconst dX6_goal_7 ?_
    exact s_iret hX dX6_goal_8
abbrev rmX6_riders : Room := { frames := 1, cells := 0, slots := 0, locals := 20 }
abbrev SX6_riders (B : Nat) (X : Ctx) := Sim cX6_riders RX6 4 rmX6_riders B X
set_option maxHeartbeats 4000000 in
set_option maxRecDepth 100000 in
theorem ctX6_riders (B fu : Nat) (a0 : Int) (a1 : Int) (σ : Mem) : CtI yX6_riders cX6_riders 4 (some .int) rmX6_riders B [rv B 0, iv a0, iv a1] σ (fX6_riders fu a0 a1 σ) := by
  refine ctI_intro (own := RX6) (lv := [(0, rv B 0), (1, iv a0), (2, iv a1)]) (by decide +kernel) rfl (Nat.le_of_ble_eq_true rfl) rfl (fun X hX => ?_)
  unfold fX6_riders
  refine s_iload_n 1 dX6_riders_0 rfl rfl ?_
  refine s_Si (rest := []) dX6_riders_1 lk_X6_75 meX6_isStop (ctX6_isStop B fu a0 σ) rfl rfl ⟨rfl, rfl, by decide, by decide⟩ (Nat.le_of_ble_eq_true rfl) (fun x1 s1 => ?_)
  refine s_jn (fun (j1 : Mem → PR) => ∀ (s4 : Mem), SX6_riders B X (j1 s4) s4 18 [] []) ?_ (fun j1 hj1 => ?_)
  · intro s2
    refine s_iconst dX6_riders_18 ?_
    exact s_iret hX dX6_riders_19
  · refine s_if_eq (tgt := 18) dX6_riders_4 (by decide) ?_ ?_
    · exact s_sub [] rfl (hj1 s1)
    · refine s_iload_n 2 dX6_riders_7 rfl rfl ?_
      refine s_if_lt (tgt := 18) dX6_riders_8 (by decide) ?_ ?_
      · exact s_sub [] rfl (hj1 s1)
      · refine s_iload_n 2 dX6_riders_11 rfl rfl ?_
        refine s_sipush dX6_riders_12 (by decide) ?_
        refine s_icmp_le (tgt := 20) dX6_riders_15 (by decide) ?_ ?_
        · refine s_aload_n 0 dX6_riders_20 rfl rfl ?_
          refine s_getr (n := 135) (k' := 136) dX6_riders_21 ly6 fl_X6_19 kd_0 rfl rfl rfl ?_
          refine s_getr (n := 133) (k' := 270) dX6_riders_24 ly2 fl_X6_81 kd_136 rfl rfl rfl ?_
          refine s_iload_n 1 dX6_riders_27 rfl rfl ?_
          refine s_aals dX6_riders_28 (fun p1 hp1 => ?_)
          refine s_geti dX6_riders_29 ly4 fl_X6_85 hp1 rfl ?_
          refine s_lti (fun x2 => ?_)
          refine s_istore_n (lv' := [(3, iv x2), (0, rv B 0), (1, iv a0), (2, iv a1)]) dX6_riders_32 rfl (by decide) rfl ?_
          refine s_aload_n 1 dX6_riders_33 rfl rfl ?_
          refine s_getr (n := 135) (k' := 136) dX6_riders_34 ly6 fl_X6_19 kd_0 rfl rfl rfl ?_
          refine s_getr (n := 133) (k' := 270) dX6_riders_37 ly2 fl_X6_81 kd_136 rfl rfl rfl ?_
          refine s_iload_n 2 dX6_riders_40 rfl rfl ?_
          refine s_aals dX6_riders_41 (fun p2 hp2 => ?_)
          refine s_iload_n 3 dX6_riders_42 rfl rfl ?_
          refine s_puti dX6_riders_43 ly4 ty4 fl_X6_85 hp2 rfl po4_0 ⟨rfl, rfl, by decide⟩ (fun s3 => ?_)
          refine s_iload_n 0 dX6_riders_46 rfl rfl ?_
          exact s_iret hX dX6_riders_47
        · exact s_sub [] rfl (hj1 s1)
abbrev rmJ6_bitCount_0f7a4 : Room := { frames := 0, cells := 0, slots := 0, locals := 0 }
abbrev SJ6_bitCount_0f7a4 (B : Nat) (X : Ctx) := Sim cJ6_bitCount_0f7a4 RJ6 1 rmJ6_bitCount_0f7a4 B X
set_option maxHeartbeats 4000000 in
set_option maxRecDepth 100000 in
theorem ctJ6_bitCount_0f7a4 (B fu : Nat) (a0 : Int) (σ : Mem) : CtI yJ6_bitCount_0f7a4 cJ6_bitCount_0f7a4 1 (some .int) rmJ6_bitCount_0f7a4 B [iv a0] σ (fJ6_bitCount_0f7a4 fu a0 σ) := by
  refine ctI_intro (own := RJ6) (lv := [(0, iv a0)]) (by decide +kernel) rfl (Nat.le_of_ble_eq_true rfl) rfl (fun X hX => ?_)
  unfold fJ6_bitCount_0f7a4
  refine s_iload_n 0 dJ6_bitCount_0f7a4_0 rfl rfl ?_
  refine s_iload_n 0 dJ6_bitCount_0f7a4_1 rfl rfl ?_
  refine s_iconst dJ6_bitCount_0f7a4_2 ?_
  refine s_iushr dJ6_bitCount_0f7a4_3 ?_
  refine s_ldcw (x := 1431655765) dJ6_bitCount_0f7a4_4 ci_J6_265 (by decide) ?_
  refine s_iand dJ6_bitCount_0f7a4_7 ?_
  refine s_isub dJ6_bitCount_0f7a4_8 ?_
  refine s_lti (fun x1 => ?_)
  refine s_istore_n (lv' := [(0, iv x1)]) dJ6_bitCount_0f7a4_9 rfl (by decide) rfl ?_
  refine s_iload_n 0 dJ6_bitCount_0f7a4_10 rfl rfl ?_
  refine s_ldcw (x := 858993459) dJ6_bitCount_0f7a4_11 ci_J6_266 (by decide) ?_
  refine s_iand dJ6_bitCount_0f7a4_14 ?_
  refine s_iload_n 0 dJ6_bitCount_0f7a4_15 rfl rfl ?_
  refine s_iconst dJ6_bitCount_0f7a4_16 ?_
  refine s_iushr dJ6_bitCount_0f7a4_17 ?_
  refine s_ldcw (x := 858993459) dJ6_bitCount_0f7a4_18 ci_J6_266 (by decide) ?_
  refine s_iand dJ6_bitCount_0f7a4_21 ?_
  refine s_iadd dJ6_bitCount_0f7a4_22 ?_
  refine s_lti (fun x2 => ?_)
  refine s_istore_n (lv' := [(0, iv x2)]) dJ6_bitCount_0f7a4_23 rfl (by decide) rfl ?_
  refine s_iload_n 0 dJ6_bitCount_0f7a4_24 rfl rfl ?_
  refine s_iload_n 0 dJ6_bitCount_0f7a4_25 rfl rfl ?_
  refine s_iconst dJ6_bitCount_0f7a4_26 ?_
  refine s_iushr dJ6_bitCount_0f7a4_27 ?_
  refine s_iadd dJ6_bitCount_0f7a4_28 ?_
  refine s_ldcw (x := 252645135) dJ6_bitCount_0f7a4_29 ci_J6_267 (by decide) ?_
  refine s_iand dJ6_bitCount_0f7a4_32 ?_
  refine s_lti (fun x3 => ?_)
  refine s_istore_n (lv' := [(0, iv x3)]) dJ6_bitCount_0f7a4_33 rfl (by decide) rfl ?_
  refine s_iload_n 0 dJ6_bitCount_0f7a4_34 rfl rfl ?_
  refine s_iload_n 0 dJ6_bitCount_0f7a4_35 rfl rfl ?_
  refine s_bipush dJ6_bitCount_0f7a4_36 (by decide) ?_
  refine s_iushr dJ6_bitCount_0f7a4_38 ?_
  refine s_iadd dJ6_bitCount_0f7a4_39 ?_
  refine s_lti (fun x4 => ?_)
  refine s_istore_n (lv' := [(0, iv x4)]) dJ6_bitCount_0f7a4_40 rfl (by decide) rfl ?_
  refine s_iload_n 0 dJ6_bitCount_0f7a4_41 rfl rfl ?_
  refine s_iload_n 0 dJ6_bitCount_0f7a4_42 rfl rfl ?_
  refine s_bipush dJ6_bitCount_0f7a4_43 (by decide) ?_
  refine s_iushr dJ6_bitCount_0f7a4_45 ?_
  refine s_iadd dJ6_bitCount_0f7a4_46 ?_
  refine s_lti (fun x5 => ?_)
  refine s_istore_n (lv' := [(0, iv x5)]) dJ6_bitCount_0f7a4_47 rfl (by decide) rfl ?_
  refine s_iload_n 0 dJ6_bitCount_0f7a4_48 rfl rfl ?_
  refine s_bipush dJ6_bitCount_0f7a4_49 (by decide) ?_
  refine s_iand dJ6_bitCount_0f7a4_51 ?_
  exact s_iret hX dJ6_bitCount_0f7a4_52
abbrev rmX6_out : Room := { frames := 2, cells := 0, slots := 0, locals := 42 }
abbrev SX6_out (B : Nat) (X : Ctx) := Sim cX6_out RX6 3 rmX6_out B X
set_option maxHeartbeats 4000000 in
set_option maxRecDepth 100000 in
theorem ctX6_out (B fu : Nat) (a0 : Int) (a1 : Int) (σ : Mem) : CtI yX6_out cX6_out 3 (some .int) rmX6_out B [rv B 0, iv a0, iv a1] σ (fX6_out fu a0 a1 σ) := by
  refine ctI_intro (own := RX6) (lv := [(0, rv B 0), (1, iv a0), (2, iv a1)]) (by decide +kernel) rfl (Nat.le_of_ble_eq_true rfl) rfl (fun X hX => ?_)
  unfold fX6_out
  refine s_aload_n 0 dX6_out_0 rfl rfl ?_
  refine s_getr (n := 135) (k' := 136) dX6_out_1 ly6 fl_X6_19 kd_0 rfl rfl rfl ?_
  refine s_iload_n 1 dX6_out_4 rfl rfl ?_
  refine s_Vi (rest := []) dX6_out_5 lk_X6_65 meX2_hasLine (ctX2_hasLine B fu a0 σ) kd_136 ⟨rfl, by decide⟩ rfl rfl ⟨rfl, rfl, by decide, by decide⟩ (Nat.le_of_ble_eq_true rfl) (fun x1 s1 => ?_)
  refine s_if_ne (tgt := 13) dX6_out_8 (by decide) ?_ ?_
  · refine s_aload_n 0 dX6_out_13 rfl rfl ?_
    refine s_getr (n := 135) (k' := 136) dX6_out_14 ly6 fl_X6_19 kd_0 rfl rfl rfl ?_
    refine s_getd dX6_out_17 ly2 fl_X6_90 kd_136 rfl rfl (fun p1 hp1 => ?_)
    refine s_iload_n 1 dX6_out_20 rfl rfl ?_
    refine s_aald dX6_out_21 hp1 (fun p2 hp2 => ?_)
    refine s_geti dX6_out_22 ly1 fl_X6_94 hp2 rfl ?_
    refine s_iload_n 2 dX6_out_25 rfl rfl ?_
    refine s_icmp_ne (tgt := 32) dX6_out_26 (by decide) ?_ ?_
    · refine s_aload_n 0 dX6_out_32 rfl rfl ?_
      refine s_getr (n := 135) (k' := 136) dX6_out_33 ly6 fl_X6_19 kd_0 rfl rfl rfl ?_
      refine s_getd dX6_out_36 ly2 fl_X6_90 kd_136 rfl rfl (fun p3 hp3 => ?_)
      refine s_iload_n 1 dX6_out_39 rfl rfl ?_
      refine s_aald dX6_out_40 hp3 (fun p4 hp4 => ?_)
      refine s_iload_n 2 dX6_out_41 rfl rfl ?_
      refine s_putz dX6_out_42 ly1 ty1 fl_X6_94 hp4 rfl po1_4 ⟨rfl, rfl, by decide⟩ (fun s2 => ?_)
      refine s_aload_n 0 dX6_out_45 rfl rfl ?_
      refine s_getr (n := 135) (k' := 136) dX6_out_46 ly6 fl_X6_19 kd_0 rfl rfl rfl ?_
      refine s_Vi (rest := []) dX6_out_49 lk_X6_100 meX2_outLines (ctX2_outLines B fu s2) kd_136 ⟨rfl, by decide⟩ rfl rfl ⟨rfl, rfl, by decide, by decide⟩ (Nat.le_of_ble_eq_true rfl) (fun x2 s3 => ?_)
      refine s_Si (rest := []) dX6_out_52 lk_X6_104 meJ6_bitCount_0f7a4 (ctJ6_bitCount_0f7a4 B fu x2 s3) rfl rfl ⟨rfl, rfl, by decide, by decide⟩ (Nat.le_of_ble_eq_true rfl) (fun x3 s4 => ?_)
      exact s_iret hX dX6_out_55
    · refine s_bipush dX6_out_29 (by decide) ?_
      exact s_iret hX dX6_out_31
  · refine s_iconst dX6_out_11 ?_
    exact s_iret hX dX6_out_12
abbrev rmX6_closes : Room := { frames := 2, cells := 0, slots := 0, locals := 42 }
abbrev SX6_closes (B : Nat) (X : Ctx) := Sim cX6_closes RX6 3 rmX6_closes B X
set_option maxHeartbeats 4000000 in
set_option maxRecDepth 100000 in
theorem ctX6_closes (B fu : Nat) (a0 : Int) (a1 : Int) (σ : Mem) : CtI yX6_closes cX6_closes 3 (some .int) rmX6_closes B [rv B 0, iv a0, iv a1] σ (fX6_closes fu a0 a1 σ) := by
  refine ctI_intro (own := RX6) (lv := [(0, rv B 0), (1, iv a0), (2, iv a1)]) (by decide +kernel) rfl (Nat.le_of_ble_eq_true rfl) rfl (fun X hX => ?_)
  unfold fX6_closes
  refine s_iload_n 1 dX6_closes_0 rfl rfl ?_
  refine s_Si (rest := []) dX6_closes_1 lk_X6_75 meX6_isStop (ctX6_isStop B fu a0 σ) rfl rfl ⟨rfl, rfl, by decide, by decide⟩ (Nat.le_of_ble_eq_true rfl) (fun x1 s1 => ?_)
  refine s_if_ne (tgt := 9) dX6_closes_4 (by decide) ?_ ?_
  · refine s_aload_n 0 dX6_closes_9 rfl rfl ?_
    refine s_getr (n := 135) (k' := 136) dX6_closes_10 ly6 fl_X6_19 kd_0 rfl rfl rfl ?_
    refine s_getr (n := 133) (k' := 270) dX6_closes_13 ly2 fl_X6_81 kd_136 rfl rfl rfl ?_
    refine s_iload_n 1 dX6_closes_16 rfl rfl ?_
    refine s_aals dX6_closes_17 (fun p1 hp1 => ?_)
    refine s_geti dX6_closes_18 ly4 fl_X6_110 hp1 rfl ?_
    refine s_iload_n 2 dX6_closes_21 rfl rfl ?_
    refine s_icmp_ne (tgt := 28) dX6_closes_22 (by decide) ?_ ?_
    · refine s_aload_n 0 dX6_closes_28 rfl rfl ?_
      refine s_getr (n := 135) (k' := 136) dX6_closes_29 ly6 fl_X6_19 kd_0 rfl rfl rfl ?_
      refine s_getr (n := 133) (k' := 270) dX6_closes_32 ly2 fl_X6_81 kd_136 rfl rfl rfl ?_
      refine s_iload_n 1 dX6_closes_35 rfl rfl ?_
      refine s_aals dX6_closes_36 (fun p2 hp2 => ?_)
      refine s_iload_n 2 dX6_closes_37 rfl rfl ?_
      refine s_putz dX6_closes_38 ly4 ty4 fl_X6_110 hp2 rfl po4_1 ⟨rfl, rfl, by decide⟩ (fun s2 => ?_)
      refine s_aload_n 0 dX6_closes_41 rfl rfl ?_
      refine s_getr (n := 135) (k' := 136) dX6_closes_42 ly6 fl_X6_19 kd_0 rfl rfl rfl ?_
      refine s_Vi (rest := []) dX6_closes_45 lk_X6_113 meX2_closedStops (ctX2_closedStops B fu s2) kd_136 ⟨rfl, by decide⟩ rfl rfl ⟨rfl, rfl, by decide, by decide⟩ (Nat.le_of_ble_eq_true rfl) (fun x2 s3 => ?_)
      refine s_Si (rest := []) dX6_closes_48 lk_X6_104 meJ6_bitCount_0f7a4 (ctJ6_bitCount_0f7a4 B fu x2 s3) rfl rfl ⟨rfl, rfl, by decide, by decide⟩ (Nat.le_of_ble_eq_true rfl) (fun x3 s4 => ?_)
      exact s_iret hX dX6_closes_51
    · refine s_bipush dX6_closes_25 (by decide) ?_
      exact s_iret hX dX6_closes_27
  · refine s_iconst dX6_closes_7 ?_
    exact s_iret hX dX6_closes_8
abbrev rmX6_often : Room := { frames := 1, cells := 0, slots := 0, locals := 21 }
abbrev SX6_often (B : Nat) (X : Ctx) := Sim cX6_often RX6 4 rmX6_often B X
set_option maxHeartbeats 4000000 in
set_option maxRecDepth 100000 in
theorem ctX6_often (B fu : Nat) (a0 : Int) (a1 : Int) (σ : Mem) : CtI yX6_often cX6_often 4 (some .int) rmX6_often B [rv B 0, iv a0, iv a1] σ (fX6_often fu a0 a1 σ) := by
  refine ctI_intro (own := RX6) (lv := [(0, rv B 0), (1, iv a0), (2, iv a1)]) (by decide +kernel) rfl (Nat.le_of_ble_eq_true rfl) rfl (fun X hX => ?_)
  unfold fX6_often
  refine s_aload_n 0 dX6_often_0 rfl rfl ?_
  refine s_getr (n := 135) (k' := 136) dX6_often_1 ly6 fl_X6_19 kd_0 rfl rfl rfl ?_
  refine s_iload_n 1 dX6_often_4 rfl rfl ?_
  refine s_Vi (rest := []) dX6_often_5 lk_X6_65 meX2_hasLine (ctX2_hasLine B fu a0 σ) kd_136 ⟨rfl, by decide⟩ rfl rfl ⟨rfl, rfl, by decide, by decide⟩ (Nat.le_of_ble_eq_true rfl) (fun x1 s1 => ?_)
  refine s_jn (fun (j1 : Mem → PR) => ∀ (s4 : Mem), SX6_often B X (j1 s4) s4 22 [] []) ?_ (fun j1 hj1 => ?_)
  · intro s2
    refine s_iconst dX6_often_22 ?_
    exact s_iret hX dX6_often_23
  · refine s_if_eq (tgt := 22) dX6_often_8 (by decide) ?_ ?_
    · exact s_sub [] rfl (hj1 s1)
    · refine s_iload_n 2 dX6_often_11 rfl rfl ?_
      refine s_iconst dX6_often_12 ?_
      refine s_icmp_lt (tgt := 22) dX6_often_13 (by decide) ?_ ?_
      · exact s_sub [] rfl (hj1 s1)
      · refine s_iload_n 2 dX6_often_16 rfl rfl ?_
        refine s_bipush dX6_often_17 (by decide) ?_
        refine s_icmp_le (tgt := 24) dX6_often_19 (by decide) ?_ ?_
        · refine s_aload_n 0 dX6_often_24 rfl rfl ?_
          refine s_getr (n := 135) (k' := 136) dX6_often_25 ly6 fl_X6_19 kd_0 rfl rfl rfl ?_
          refine s_getd dX6_often_28 ly2 fl_X6_90 kd_136 rfl rfl (fun p1 hp1 => ?_)
          refine s_iload_n 1 dX6_often_31 rfl rfl ?_
          refine s_aald dX6_often_32 hp1 (fun p2 hp2 => ?_)
          refine s_geti dX6_often_33 ly1 fl_X6_116 hp2 rfl ?_
          refine s_lti (fun x2 => ?_)
          refine s_istore_n (lv' := [(3, iv x2), (0, rv B 0), (1, iv a0), (2, iv a1)]) dX6_often_36 rfl (by decide) rfl ?_
          refine s_aload_n 1 dX6_often_37 rfl rfl ?_
          refine s_getr (n := 135) (k' := 136) dX6_often_38 ly6 fl_X6_19 kd_0 rfl rfl rfl ?_
          refine s_getd dX6_often_41 ly2 fl_X6_90 kd_136 rfl rfl (fun p3 hp3 => ?_)
          refine s_iload_n 2 dX6_often_44 rfl rfl ?_
          refine s_aald dX6_often_45 hp3 (fun p4 hp4 => ?_)
          refine s_iload_n 3 dX6_often_46 rfl rfl ?_
          refine s_puti dX6_often_47 ly1 ty1 fl_X6_116 hp4 rfl po1_0 ⟨rfl, rfl, by decide⟩ (fun s3 => ?_)
          refine s_iload_n 0 dX6_often_50 rfl rfl ?_
          exact s_iret hX dX6_often_51
        · exact s_sub [] rfl (hj1 s1)
abbrev rmX6_line : Room := { frames := 1, cells := 0, slots := 0, locals := 21 }
abbrev SX6_line (B : Nat) (X : Ctx) := Sim cX6_line RX6 4 rmX6_line B X
set_option maxHeartbeats 4000000 in
set_option maxRecDepth 100000 in
theorem ctX6_line (B fu : Nat) (a0 : Int) (a1 : Int) (σ : Mem) : CtI yX6_line cX6_line 4 (some .int) rmX6_line B [rv B 0, iv a0, iv a1] σ (fX6_line fu a0 a1 σ) := by
  refine ctI_intro (own := RX6) (lv := [(0, rv B 0), (1, iv a0), (2, iv a1)]) (by decide +kernel) rfl (Nat.le_of_ble_eq_true rfl) rfl (fun X hX => ?_)
  unfold fX6_line
  refine s_aload_n 0 dX6_line_0 rfl rfl ?_
  refine s_getr (n := 135) (k' := 136) dX6_line_1 ly6 fl_X6_19 kd_0 rfl rfl rfl ?_
  refine s_iload_n 1 dX6_line_4 rfl rfl ?_
  refine s_Vi (rest := []) dX6_line_5 lk_X6_65 meX2_hasLine (ctX2_hasLine B fu a0 σ) kd_136 ⟨rfl, by decide⟩ rfl rfl ⟨rfl, rfl, by decide, by decide⟩ (Nat.le_of_ble_eq_true rfl) (fun x1 s1 => ?_)
  refine s_if_ne (tgt := 13) dX6_line_8 (by decide) ?_ ?_
  · refine s_aload_n 0 dX6_line_13 rfl rfl ?_
    refine s_getr (n := 135) (k' := 136) dX6_line_14 ly6 fl_X6_19 kd_0 rfl rfl rfl ?_
    refine s_getd dX6_line_17 ly2 fl_X6_90 kd_136 rfl rfl (fun p1 hp1 => ?_)
    refine s_iload_n 1 dX6_line_20 rfl rfl ?_
    refine s_aald dX6_line_21 hp1 (fun p2 hp2 => ?_)
    refine s_astore_n (lv' := [(3, rv B p2), (0, rv B 0), (1, iv a0), (2, iv a1)]) dX6_line_22 rfl (by decide) rfl ?_
    refine s_iload_n 3 dX6_line_23 rfl rfl ?_
    refine s_ite1 (fun hd0 => ?_) ?_
    · refine s_tabO (tgt := 88) dX6_line_24 hd0 (by decide) ?_
      refine s_iconst dX6_line_88 ?_
      exact s_iret hX dX6_line_89
    · refine s_ite1 (fun h0 => ?_) ?_
      · refine s_tabI (tgt := 60) dX6_line_24 0 h0 (by decide) (by decide) rfl (by decide) ?_
        refine s_aload_n 0 dX6_line_60 rfl rfl ?_
        refine s_geti dX6_line_61 ly1 fl_X6_116 hp2 rfl ?_
        exact s_iret hX dX6_line_64
      · refine s_ite1 (fun h1 => ?_) ?_
        · refine s_tabI (tgt := 65) dX6_line_24 1 h1 (by decide) (by decide) rfl (by decide) ?_
          refine s_aload_n 0 dX6_line_65 rfl rfl ?_
          refine s_geti dX6_line_66 ly1 fl_X6_119 hp2 rfl ?_
          exact s_iret hX dX6_line_69
        · refine s_ite1 (fun h2 => ?_) ?_
          · refine s_tabI (tgt := 70) dX6_line_24 2 h2 (by decide) (by decide) rfl (by decide) ?_
            refine s_aload_n 0 dX6_line_70 rfl rfl ?_
            refine s_geti dX6_line_71 ly1 fl_X6_122 hp2 rfl ?_
            exact s_iret hX dX6_line_74
          · refine s_ite1 (fun h3 => ?_) ?_
            · refine s_tabI (tgt := 75) dX6_line_24 3 h3 (by decide) (by decide) rfl (by decide) ?_
              refine s_aload_n 0 dX6_line_75 rfl rfl ?_
              refine s_geti dX6_line_76 ly1 fl_X6_125 hp2 rfl ?_
              exact s_iret hX dX6_line_79
            · refine s_ite1 (fun h4 => ?_) ?_
              · refine s_tabI (tgt := 80) dX6_line_24 4 h4 (by decide) (by decide) rfl (by decide) ?_
                refine s_aload_n 0 dX6_line_80 rfl rfl ?_
                refine s_geti dX6_line_81 ly1 fl_X6_94 hp2 rfl ?_
                refine s_Si (rest := []) dX6_line_84 lk_X6_128 meX6_bit (ctX6_bit B fu (s1 p2 4) s1) rfl rfl ⟨rfl, rfl, by decide, by decide⟩ (Nat.le_of_ble_eq_true rfl) (fun x2 s2 => ?_)
                exact s_iret hX dX6_line_87
              · exact s_none
  · refine s_iconst dX6_line_11 ?_
    exact s_iret hX dX6_line_12
abbrev rmX6_stop : Room := { frames := 2, cells := 0, slots := 0, locals := 43 }
abbrev SX6_stop (B : Nat) (X : Ctx) := Sim cX6_stop RX6 4 rmX6_stop B X
set_option maxHeartbeats 4000000 in
set_option maxRecDepth 100000 in
theorem ctX6_stop (B fu : Nat) (a0 : Int) (a1 : Int) (σ : Mem) : CtI yX6_stop cX6_stop 4 (some .int) rmX6_stop B [rv B 0, iv a0, iv a1] σ (fX6_stop fu a0 a1 σ) := by
  refine ctI_intro (own := RX6) (lv := [(0, rv B 0), (1, iv a0), (2, iv a1)]) (by decide +kernel) rfl (Nat.le_of_ble_eq_true rfl) rfl (fun X hX => ?_)
  unfold fX6_stop
  refine s_aload_n 0 dX6_stop_0 rfl rfl ?_
  refine s_getr (n := 135) (k' := 136) dX6_stop_1 ly6 fl_X6_19 kd_0 rfl rfl rfl ?_
  refine s_iload_n 1 dX6_stop_4 rfl rfl ?_
  refine s_iload_n 2 dX6_stop_5 rfl rfl ?_
  refine s_Vi (rest := []) dX6_stop_6 lk_X6_132 meX2_hasHalt (ctX2_hasHalt B fu a0 a1 σ) kd_136 ⟨rfl, by decide⟩ rfl rfl ⟨rfl, rfl, by decide, by decide⟩ (Nat.le_of_ble_eq_true rfl) (fun x1 s1 => ?_)
  refine s_if_ne (tgt := 14) dX6_stop_9 (by decide) ?_ ?_
  · refine s_aload_n 0 dX6_stop_14 rfl rfl ?_
    refine s_getr (n := 135) (k' := 136) dX6_stop_15 ly6 fl_X6_19 kd_0 rfl rfl rfl ?_
    refine s_getd dX6_stop_18 ly2 fl_X6_90 kd_136 rfl rfl (fun p1 hp1 => ?_)
    refine s_iload_n 1 dX6_stop_21 rfl rfl ?_
    refine s_aald dX6_stop_22 hp1 (fun p2 hp2 => ?_)
    refine s_astore_n (lv' := [(3, rv B p2), (0, rv B 0), (1, iv a0), (2, iv a1)]) dX6_stop_23 rfl (by decide) rfl ?_
    refine s_aload_n 1 dX6_stop_24 rfl rfl ?_
    refine s_getr (n := 322) (k' := 323) dX6_stop_25 ly6 fl_X6_26 kd_0 rfl rfl rfl ?_
    refine s_Vv (rest := []) dX6_stop_28 lk_X6_136 meX3_empty (ctX3_empty B fu s1) kd_323 ⟨rfl, by decide⟩ rfl rfl ⟨rfl, rfl, by decide, by decide⟩ (Nat.le_of_ble_eq_true rfl) (fun _ s2 => ?_)
    refine s_aload_n 0 dX6_stop_31 rfl rfl ?_
    refine s_iload_n 3 dX6_stop_32 rfl rfl ?_
    refine s_Vi (rest := []) dX6_stop_33 lk_X6_139 meX1_isStep (ctX1_isStep B fu p2 hp2 a1 s2) hp2 ⟨rfl, by decide⟩ rfl rfl ⟨rfl, rfl, by decide, by decide⟩ (Nat.le_of_ble_eq_true rfl) (fun x2 s3 => ?_)
    refine s_jn (fun (j1 : Mem → PR) => ∀ (s7 : Mem), SX6_stop B X (j1 s7) s7 67 [(2, iv a1), (3, rv B p2)] []) ?_ (fun j1 hj1 => ?_)
    · intro s4
      refine s_aload_n 1 dX6_stop_67 rfl rfl ?_
      refine s_getr (n := 0) (k' := p2 + 1) dX6_stop_68 ly1 fl_X6_153 hp2 rfl rfl rfl ?_
      refine s_iload_n 0 dX6_stop_71 rfl rfl ?_
      refine s_iald 8 dX6_stop_72 (kdL1 hp2) (by decide) (fun x3 => ?_)
      exact s_iret hX dX6_stop_73
    · refine s_if_eq (tgt := 67) dX6_stop_36 (by decide) ?_ ?_
      · exact s_sub [3, 0] rfl (hj1 s3)
      · refine s_aload_n 1 dX6_stop_39 rfl rfl ?_
        refine s_getr (n := 322) (k' := 323) dX6_stop_40 ly6 fl_X6_26 kd_0 rfl rfl rfl ?_
        refine s_aload_n 0 dX6_stop_43 rfl rfl ?_
        refine s_getr (n := 1) (k' := p2 + 2) dX6_stop_44 ly1 fl_X6_142 hp2 rfl rfl rfl ?_
        refine s_iload_n 3 dX6_stop_47 rfl rfl ?_
        refine s_iald 8 dX6_stop_48 (kdL2 hp2) (by decide) (fun x4 => ?_)
        refine s_i2l dX6_stop_49 ?_
        refine s_Vv (rest := []) dX6_stop_50 lk_X6_146 meX3_put (ctX3_put B fu (w32 x4) s3) kd_323 ⟨rfl, by decide⟩ rfl rfl ⟨rfl, rfl, by decide, by decide⟩ (Nat.le_of_ble_eq_true rfl) (fun _ s5 => ?_)
        refine s_aload_n 1 dX6_stop_53 rfl rfl ?_
        refine s_getr (n := 322) (k' := 323) dX6_stop_54 ly6 fl_X6_26 kd_0 rfl rfl rfl ?_
        refine s_aload_n 0 dX6_stop_57 rfl rfl ?_
        refine s_getr (n := 2) (k' := p2 + 3) dX6_stop_58 ly1 fl_X6_150 hp2 rfl rfl rfl ?_
        refine s_iload_n 3 dX6_stop_61 rfl rfl ?_
        refine s_iald 8 dX6_stop_62 (kdL3 hp2) (by decide) (fun x5 => ?_)
        refine s_i2l dX6_stop_63 ?_
        refine s_Vv (rest := []) dX6_stop_64 lk_X6_146 meX3_put (ctX3_put B fu (w32 x5) s5) kd_323 ⟨rfl, by decide⟩ rfl rfl ⟨rfl, rfl, by decide, by decide⟩ (Nat.le_of_ble_eq_true rfl) (fun _ s6 => ?_)
        exact s_sub [3, 0] rfl (hj1 s6)
  · refine s_iconst dX6_stop_12 ?_
    exact s_iret hX dX6_stop_13
abbrev rmX6_cost : Room := { frames := 4, cells := 0, slots := 0, locals := 94 }
abbrev SX6_cost (B : Nat) (X : Ctx) := Sim cX6_cost RX6 3 rmX6_cost B X
set_option maxHeartbeats 4000000 in
set_option maxRecDepth 100000 in
theorem ctX6_cost (B fu : Nat) (a0 : Int) (σ : Mem) : CtI yX6_cost cX6_cost 3 (some .int) rmX6_cost B [rv B 0, iv a0] σ (fX6_cost fu a0 σ) := by
  refine ctI_intro (own := RX6) (lv := [(0, rv B 0), (1, iv a0)]) (by decide +kernel) rfl (Nat.le_of_ble_eq_true rfl) rfl (fun X hX => ?_)
  unfold fX6_cost
  refine s_iload_n 1 dX6_cost_0 rfl rfl ?_
  refine s_Si (rest := []) dX6_cost_1 lk_X6_75 meX6_isStop (ctX6_isStop B fu a0 σ) rfl rfl ⟨rfl, rfl, by decide, by decide⟩ (Nat.le_of_ble_eq_true rfl) (fun x1 s1 => ?_)
  refine s_if_ne (tgt := 9) dX6_cost_4 (by decide) ?_ ?_
  · refine s_aload_n 0 dX6_cost_9 rfl rfl ?_
    refine s_getr (n := 135) (k' := 136) dX6_cost_10 ly6 fl_X6_19 kd_0 rfl rfl rfl ?_
    refine s_Vv (rest := []) dX6_cost_13 lk_X6_155 meX2_findCosts (ctX2_findCosts B fu s1) kd_136 ⟨rfl, by decide⟩ rfl rfl ⟨rfl, rfl, by decide, by decide⟩ (Nat.le_of_ble_eq_true rfl) (fun _ s2 => ?_)
    refine s_aload_n 0 dX6_cost_16 rfl rfl ?_
    refine s_getr (n := 135) (k' := 136) dX6_cost_17 ly6 fl_X6_19 kd_0 rfl rfl rfl ?_
    refine s_getr (n := 133) (k' := 270) dX6_cost_20 ly2 fl_X6_81 kd_136 rfl rfl rfl ?_
    refine s_iload_n 1 dX6_cost_23 rfl rfl ?_
    refine s_aals dX6_cost_24 (fun p1 hp1 => ?_)
    refine s_astore_n (lv' := [(2, rv B p1), (0, rv B 0), (1, iv a0)]) dX6_cost_25 rfl (by decide) rfl ?_
    refine s_aload_n 0 dX6_cost_26 rfl rfl ?_
    refine s_geti dX6_cost_27 ly4 fl_X6_158 hp1 rfl ?_
    refine s_iconst dX6_cost_30 ?_
    refine s_icmp_ne (tgt := 37) dX6_cost_31 (by decide) ?_ ?_
    · refine s_aload_n 1 dX6_cost_37 rfl rfl ?_
      refine s_getr (n := 322) (k' := 323) dX6_cost_38 ly6 fl_X6_26 kd_0 rfl rfl rfl ?_
      refine s_aload_n 0 dX6_cost_41 rfl rfl ?_
      refine s_geti dX6_cost_42 ly4 fl_X6_161 hp1 rfl ?_
      refine s_i2l dX6_cost_45 ?_
      refine s_aload_n 0 dX6_cost_46 rfl rfl ?_
      refine s_geti dX6_cost_47 ly4 fl_X6_164 hp1 rfl ?_
      refine s_i2l dX6_cost_50 ?_
      refine s_Vv (rest := []) dX6_cost_51 lk_X6_167 meX3_putTwo (ctX3_putTwo B fu (w32 (s2 p1 5)) (w32 (s2 p1 4)) s2) kd_323 ⟨rfl, by decide⟩ rfl rfl ⟨rfl, rfl, by decide, by decide⟩ (Nat.le_of_ble_eq_true rfl) (fun _ s3 => ?_)
      refine s_aload_n 0 dX6_cost_54 rfl rfl ?_
      refine s_geti dX6_cost_55 ly4 fl_X6_158 hp1 rfl ?_
      exact s_iret hX dX6_cost_58
    · refine s_bipush dX6_cost_34 (by decide) ?_
      exact s_iret hX dX6_cost_36
  · refine s_iconst dX6_cost_7 ?_
    exact s_iret hX dX6_cost_8
abbrev rmX6_rounds : Room := { frames := 4, cells := 0, slots := 0, locals := 94 }
abbrev SX6_rounds (B : Nat) (X : Ctx) := Sim cX6_rounds RX6 1 rmX6_rounds B X
set_option maxHeartbeats 4000000 in
set_option maxRecDepth 100000 in
theorem ctX6_rounds (B fu : Nat) (σ : Mem) : CtI yX6_rounds cX6_rounds 1 (some .int) rmX6_rounds B [rv B 0] σ (fX6_rounds fu σ) := by
  refine ctI_intro (own := RX6) (lv := [(0, rv B 0)]) (by decide +kernel) rfl (Nat.le_of_ble_eq_true rfl) rfl (fun X hX => ?_)
  unfold fX6_rounds
  refine s_aload_n 0 dX6_rounds_0 rfl rfl ?_
  refine s_getr (n := 135) (k' := 136) dX6_rounds_1 ly6 fl_X6_19 kd_0 rfl rfl rfl ?_
  refine s_Vv (rest := []) dX6_rounds_4 lk_X6_155 meX2_findCosts (ctX2_findCosts B fu σ) kd_136 ⟨rfl, by decide⟩ rfl rfl ⟨rfl, rfl, by decide, by decide⟩ (Nat.le_of_ble_eq_true rfl) (fun _ s1 => ?_)
  refine s_aload_n 0 dX6_rounds_7 rfl rfl ?_
  refine s_getr (n := 322) (k' := 323) dX6_rounds_8 ly6 fl_X6_26 kd_0 rfl rfl rfl ?_
  refine s_aload_n 0 dX6_rounds_11 rfl rfl ?_
  refine s_getr (n := 135) (k' := 136) dX6_rounds_12 ly6 fl_X6_19 kd_0 rfl rfl rfl ?_
  refine s_ldc (x := 2147483647) dX6_rounds_15 ci_X6_171 (by decide) ?_
  refine s_Vi (rest := [rv B 323]) dX6_rounds_17 lk_X6_172 meX2_stopsWithin (ctX2_stopsWithin B fu 2147483647 s1) kd_136 ⟨rfl, by decide⟩ rfl rfl ⟨rfl, rfl, by decide, by decide⟩ (Nat.le_of_ble_eq_true rfl) (fun x1 s2 => ?_)
  refine s_Si (rest := [rv B 323]) dX6_rounds_20 lk_X6_104 meJ6_bitCount_0f7a4 (ctJ6_bitCount_0f7a4 B fu x1 s2) rfl rfl ⟨rfl, rfl, by decide, by decide⟩ (Nat.le_of_ble_eq_true rfl) (fun x2 s3 => ?_)
  refine s_i2l dX6_rounds_23 ?_
  refine s_Vv (rest := []) dX6_rounds_24 lk_X6_175 meX3_putOne (ctX3_putOne B fu (w32 x2) s3) kd_323 ⟨rfl, by decide⟩ rfl rfl ⟨rfl, rfl, by decide, by decide⟩ (Nat.le_of_ble_eq_true rfl) (fun _ s4 => ?_)
  refine s_aload_n 0 dX6_rounds_27 rfl rfl ?_
  refine s_getr (n := 135) (k' := 136) dX6_rounds_28 ly6 fl_X6_19 kd_0 rfl rfl rfl ?_
  refine s_geti dX6_rounds_31 ly2 fl_X6_178 kd_136 rfl ?_
  exact s_iret hX dX6_rounds_34
