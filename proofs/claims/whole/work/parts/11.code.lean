abbrev rmX2_allRiders : Room := { frames := 0, cells := 0, slots := 0, locals := 0 }
abbrev SX2_allRiders (B : Nat) (X : Ctx) := Sim cX2_allRiders RX2 3 rmX2_allRiders B X
set_option maxHeartbeats 4000000 in
set_option maxRecDepth 100000 in
theorem fX2_allRiders_L4_s {B fu : Nat} {X : Ctx} (hX : CxI .int B X) (k28 : Int → Mem → PR) (hk28 : ∀ (x3 : Int) (s3 : Mem), SX2_allRiders B X (k28 x3 s3) s3 28 [(1, iv x3)] []) : ∀ (n : Nat) (x1 : Int) (x2 : Int) (s2 : Mem), SX2_allRiders B X (fX2_allRiders_L4 fu k28 n x1 x2 s2) s2 4 [(0, rv B 136), (1, iv x1), (2, iv x2)] [] := by
  intro n
  induction n with
  | zero => intro _ _ _; exact s_none
  | succ n ih =>
    intro x1 x2 s1
    rw [fX2_allRiders_L4]
    refine s_iload_n 2 dX2_allRiders_4 rfl rfl ?_
    refine s_bipush dX2_allRiders_5 (by decide) ?_
    refine s_icmp_ge (tgt := 28) dX2_allRiders_7 (by decide) ?_ ?_
    · exact s_sub [1] rfl (hk28 x1 s1)
    · refine s_iload_n 1 dX2_allRiders_10 rfl rfl ?_
      refine s_aload_n 0 dX2_allRiders_11 rfl rfl ?_
      refine s_getr (n := 133) (k' := 270) dX2_allRiders_12 ly2 fl_X2_21 kd_136 rfl rfl rfl ?_
      refine s_iload_n 2 dX2_allRiders_15 rfl rfl ?_
      refine s_aals dX2_allRiders_16 (fun p1 hp1 => ?_)
      refine s_geti dX2_allRiders_17 ly4 fl_X2_74 hp1 rfl ?_
      refine s_iadd dX2_allRiders_20 ?_
      refine s_lti (fun x4 => ?_)
      refine s_istore_n (lv' := [(1, iv x4), (0, rv B 136), (2, iv x2)]) dX2_allRiders_21 rfl (by decide) rfl ?_
      refine s_iinc (lv' := [(2, iv (x2 + 1)), (1, iv x4), (0, rv B 136)]) 2 dX2_allRiders_22 rfl (by decide) rfl ?_
      refine s_goto (tgt := 4) dX2_allRiders_25 (by decide) ?_
      exact s_sub [2, 1, 0] rfl (ih x4 (x2 + 1) s1)
set_option maxHeartbeats 4000000 in
set_option maxRecDepth 100000 in
theorem ctX2_allRiders (B fu : Nat) (σ : Mem) : CtI yX2_allRiders cX2_allRiders 3 (some .int) rmX2_allRiders B [rv B 136] σ (fX2_allRiders fu σ) := by
  refine ctI_intro (own := RX2) (lv := [(0, rv B 136)]) (by decide +kernel) rfl (Nat.le_of_ble_eq_true rfl) rfl (fun X hX => ?_)
  unfold fX2_allRiders
  refine s_iconst dX2_allRiders_0 ?_
  refine s_istore_n (lv' := [(1, iv 0), (0, rv B 136)]) dX2_allRiders_1 rfl (by decide) rfl ?_
  refine s_iconst dX2_allRiders_2 ?_
  refine s_istore_n (lv' := [(2, iv 0), (1, iv 0), (0, rv B 136)]) dX2_allRiders_3 rfl (by decide) rfl ?_
  refine s_sub [2, 1, 0] (lv' := [(0, rv B 136), (1, iv 0), (2, iv 0)]) rfl ?_
  refine fX2_allRiders_L4_s hX _ ?_ fu 0 0 σ
  intro x5 s4
  refine s_iload_n 0 dX2_allRiders_28 rfl rfl ?_
  exact s_iret hX dX2_allRiders_29
abbrev rmX2_allSteps : Room := { frames := 0, cells := 0, slots := 0, locals := 0 }
abbrev SX2_allSteps (B : Nat) (X : Ctx) := Sim cX2_allSteps RX2 3 rmX2_allSteps B X
set_option maxHeartbeats 4000000 in
set_option maxRecDepth 100000 in
theorem fX2_allSteps_L4_s {B fu : Nat} {X : Ctx} (hX : CxI .int B X) (k32 : Int → Mem → PR) (hk32 : ∀ (x3 : Int) (s3 : Mem), SX2_allSteps B X (k32 x3 s3) s3 32 [(1, iv x3)] []) : ∀ (n : Nat) (x1 : Int) (x2 : Int) (s2 : Mem), SX2_allSteps B X (fX2_allSteps_L4 fu k32 n x1 x2 s2) s2 4 [(0, rv B 136), (1, iv x1), (2, iv x2)] [] := by
  intro n
  induction n with
  | zero => intro _ _ _; exact s_none
  | succ n ih =>
    intro x1 x2 s1
    rw [fX2_allSteps_L4]
    refine s_iload_n 2 dX2_allSteps_4 rfl rfl ?_
    refine s_aload_n 0 dX2_allSteps_5 rfl rfl ?_
    refine s_geti dX2_allSteps_6 ly2 fl_X2_41 kd_136 rfl ?_
    refine s_icmp_ge (tgt := 32) dX2_allSteps_9 (by decide) ?_ ?_
    · exact s_sub [1] rfl (hk32 x1 s1)
    · refine s_iload_n 1 dX2_allSteps_12 rfl rfl ?_
      refine s_aload_n 0 dX2_allSteps_13 rfl rfl ?_
      refine s_getd dX2_allSteps_14 ly2 fl_X2_13 kd_136 rfl rfl (fun p1 hp1 => ?_)
      refine s_iload_n 2 dX2_allSteps_17 rfl rfl ?_
      refine s_aald dX2_allSteps_18 hp1 (fun p2 hp2 => ?_)
      refine s_geti dX2_allSteps_19 ly1 fl_X2_77 hp2 rfl ?_
      refine s_iconst dX2_allSteps_22 ?_
      refine s_isub dX2_allSteps_23 ?_
      refine s_iadd dX2_allSteps_24 ?_
      refine s_lti (fun x4 => ?_)
      refine s_istore_n (lv' := [(1, iv x4), (0, rv B 136), (2, iv x2)]) dX2_allSteps_25 rfl (by decide) rfl ?_
      refine s_iinc (lv' := [(2, iv (x2 + 1)), (1, iv x4), (0, rv B 136)]) 2 dX2_allSteps_26 rfl (by decide) rfl ?_
      refine s_goto (tgt := 4) dX2_allSteps_29 (by decide) ?_
      exact s_sub [2, 1, 0] rfl (ih x4 (x2 + 1) s1)
set_option maxHeartbeats 4000000 in
set_option maxRecDepth 100000 in
theorem ctX2_allSteps (B fu : Nat) (σ : Mem) : CtI yX2_allSteps cX2_allSteps 3 (some .int) rmX2_allSteps B [rv B 136] σ (fX2_allSteps fu σ) := by
  refine ctI_intro (own := RX2) (lv := [(0, rv B 136)]) (by decide +kernel) rfl (Nat.le_of_ble_eq_true rfl) rfl (fun X hX => ?_)
  unfold fX2_allSteps
  refine s_iconst dX2_allSteps_0 ?_
  refine s_istore_n (lv' := [(1, iv 0), (0, rv B 136)]) dX2_allSteps_1 rfl (by decide) rfl ?_
  refine s_iconst dX2_allSteps_2 ?_
  refine s_istore_n (lv' := [(2, iv 0), (1, iv 0), (0, rv B 136)]) dX2_allSteps_3 rfl (by decide) rfl ?_
  refine s_sub [2, 1, 0] (lv' := [(0, rv B 136), (1, iv 0), (2, iv 0)]) rfl ?_
  refine fX2_allSteps_L4_s hX _ ?_ fu 0 0 σ
  intro x5 s4
  refine s_iload_n 0 dX2_allSteps_32 rfl rfl ?_
  exact s_iret hX dX2_allSteps_33
abbrev rmX2_waitingWeight : Room := { frames := 0, cells := 0, slots := 0, locals := 0 }
abbrev SX2_waitingWeight (B : Nat) (X : Ctx) := Sim cX2_waitingWeight RX2 1 rmX2_waitingWeight B X
set_option maxHeartbeats 4000000 in
set_option maxRecDepth 100000 in
theorem ctX2_waitingWeight (B fu : Nat) (σ : Mem) : CtL yX2_waitingWeight cX2_waitingWeight 1 (some .long) rmX2_waitingWeight B [rv B 136] σ (fX2_waitingWeight fu σ) := by
  refine ctL_intro (own := RX2) (lv := [(0, rv B 136)]) (by decide +kernel) rfl (Nat.le_of_ble_eq_true rfl) rfl (fun X hX => ?_)
  unfold fX2_waitingWeight
  refine s_ldc2 (x := 60) dX2_waitingWeight_0 cl_X2_80 (by decide) ?_
  refine s_aload_n 0 dX2_waitingWeight_3 rfl rfl ?_
  refine s_geti dX2_waitingWeight_4 ly2 fl_X2_25 kd_136 rfl ?_
  refine s_i2l dX2_waitingWeight_7 ?_
  refine s_lmul dX2_waitingWeight_8 ?_
  exact s_lret hX dX2_waitingWeight_9
abbrev rmX4_choose : Room := { frames := 1, cells := 0, slots := 0, locals := 23 }
abbrev SX4_choose (B : Nat) (X : Ctx) := Sim cX4_choose RX4 7 rmX4_choose B X
set_option maxHeartbeats 4000000 in
set_option maxRecDepth 100000 in
theorem fX4_choose_L3_s {B fu : Nat} {X : Ctx} (hX : CxI .int B X) (p1 : Nat) (hp1 : kd p1 = 4) (p2 : Nat) (hp2 : kd p2 = 5012) (k104 : Int → Mem → PR) (hk104 : ∀ (x2 : Int) (s8 : Mem), SX4_choose B X (k104 x2 s8) s8 104 [(0, rv B p1), (4, jv x2)] []) : ∀ (n : Nat) (x1 : Int) (s7 : Mem), SX4_choose B X (fX4_choose_L3 fu p1 p2 k104 n x1 s7) s7 3 [(0, rv B p1), (3, rv B p2), (4, jv x1)] [] := by
  intro n
  induction n with
  | zero => intro _ _; exact s_none
  | succ n ih =>
    intro x1 s1
    rw [fX4_choose_L3]
    refine s_aload_n 0 dX4_choose_3 rfl rfl ?_
    refine s_geti dX4_choose_4 ly4 fl_X4_28 hp1 rfl ?_
    refine s_aload_n 0 dX4_choose_7 rfl rfl ?_
    refine s_geti dX4_choose_8 ly4 fl_X4_25 hp1 rfl ?_
    refine s_icmp_ge (tgt := 104) dX4_choose_11 (by decide) ?_ ?_
    · exact s_sub [0, 2] rfl (hk104 x1 s1)
    · refine s_aload_n 0 dX4_choose_14 rfl rfl ?_
      refine s_geti dX4_choose_15 ly4 fl_X4_28 hp1 rfl ?_
      refine s_jn (fun (j1 : Mem → PR) => ∀ (s6 : Mem), SX4_choose B X (j1 s6) s6 45 [(0, rv B p1), (3, rv B p2), (4, jv x1)] []) ?_ (fun j1 hj1 => ?_)
      · intro s2
        refine s_aload_n 1 dX4_choose_45 rfl rfl ?_
        refine s_aload_n 0 dX4_choose_46 rfl rfl ?_
        refine s_getr (n := 0) (k' := p1 + 1) dX4_choose_47 ly4 fl_X4_15 hp1 rfl rfl rfl ?_
        refine s_aload_n 0 dX4_choose_50 rfl rfl ?_
        refine s_geti dX4_choose_51 ly4 fl_X4_28 hp1 rfl ?_
        refine s_iald 12 dX4_choose_54 (kdS1 hp1) (by decide) (fun x3 => ?_)
        refine s_aald dX4_choose_55 hp2 (fun p3 hp3 => ?_)
        refine s_geti dX4_choose_56 ly1 fl_X4_38 hp3 rfl ?_
        refine s_lti (fun x4 => ?_)
        refine s_istore (lv' := [(6, iv x4), (0, rv B p1), (3, rv B p2), (4, jv x1)]) dX4_choose_59 (by decide) rfl ?_
        refine s_lload 3 dX4_choose_61 rfl ?_
        refine s_iload 0 dX4_choose_63 rfl ?_
        refine s_i2l dX4_choose_65 ?_
        refine s_aload_n 1 dX4_choose_66 rfl rfl ?_
        refine s_getr (n := 2) (k' := p1 + 3) dX4_choose_67 ly4 fl_X4_22 hp1 rfl rfl rfl ?_
        refine s_aload_n 1 dX4_choose_70 rfl rfl ?_
        refine s_geti dX4_choose_71 ly4 fl_X4_28 hp1 rfl ?_
        refine s_iald 12 dX4_choose_74 (kdS3 hp1) (by decide) (fun x5 => ?_)
        refine s_i2l dX4_choose_75 ?_
        refine s_lmul dX4_choose_76 ?_
        refine s_ladd dX4_choose_77 ?_
        refine s_ltl (fun x6 => ?_)
        refine s_lstore (lv' := [(4, jv x6), (6, iv x4), (0, rv B p1), (3, rv B p2)]) dX4_choose_78 (by decide) rfl ?_
        refine s_aload_n 2 dX4_choose_80 rfl rfl ?_
        refine s_dup dX4_choose_81 rfl ?_
        refine s_geti dX4_choose_82 ly4 fl_X4_31 hp1 rfl ?_
        refine s_iload 1 dX4_choose_85 rfl ?_
        refine s_iadd dX4_choose_87 ?_
        refine s_puti dX4_choose_88 ly4 ty4 fl_X4_31 hp1 rfl po4_5 ⟨rfl, rfl, by decide⟩ (fun s3 => ?_)
        refine s_aload_n 2 dX4_choose_91 rfl rfl ?_
        refine s_dup dX4_choose_92 rfl ?_
        refine s_geti dX4_choose_93 ly4 fl_X4_28 hp1 rfl ?_
        refine s_iconst dX4_choose_96 ?_
        refine s_iadd dX4_choose_97 ?_
        refine s_puti dX4_choose_98 ly4 ty4 fl_X4_28 hp1 rfl po4_4 ⟨rfl, rfl, by decide⟩ (fun s4 => ?_)
        refine s_goto (tgt := 3) dX4_choose_101 (by decide) ?_
        exact s_sub [2, 3, 0] rfl (ih x6 s4)
      · refine s_if_eq (tgt := 45) dX4_choose_18 (by decide) ?_ ?_
        · exact hj1 s1
        · refine s_aload_n 0 dX4_choose_21 rfl rfl ?_
          refine s_getr (n := 2) (k' := p1 + 3) dX4_choose_22 ly4 fl_X4_22 hp1 rfl rfl rfl ?_
          refine s_aload_n 0 dX4_choose_25 rfl rfl ?_
          refine s_geti dX4_choose_26 ly4 fl_X4_28 hp1 rfl ?_
          refine s_iald 12 dX4_choose_29 (kdS3 hp1) (by decide) (fun x7 => ?_)
          refine s_i2l dX4_choose_30 ?_
          refine s_lload 2 dX4_choose_31 rfl ?_
          refine s_aload_n 0 dX4_choose_33 rfl rfl ?_
          refine s_geti dX4_choose_34 ly4 fl_X4_31 hp1 rfl ?_
          refine s_i2l dX4_choose_37 ?_
          refine s_Nl (rest := [jv (w32 x7)]) dX4_choose_38 nk_X4_34 meX6_parts (ctX6_parts B fu x1 (w32 (s1 p1 5)) s1) rfl rfl ⟨rfl, rfl, by decide, by decide⟩ (Nat.le_of_ble_eq_true rfl) (fun x8 s5 => ?_)
          refine s_lif_ge (tgt := 104) dX4_choose_41 dX4_choose_42 (by decide) ?_ ?_
          · exact s_sub [0, 2] rfl (hk104 x1 s5)
          · exact hj1 s5
set_option maxHeartbeats 4000000 in
set_option maxRecDepth 100000 in
theorem ctX4_choose (B fu : Nat) (th : Nat) (hth : kd th = 4) (a0 : Int) (a1 : Nat) (ha1 : kd a1 = 5012) (σ : Mem) : CtI yX4_choose cX4_choose 7 (some .int) rmX4_choose B [rv B th, jv a0, rv B a1] σ (fX4_choose fu th a0 a1 σ) := by
  refine ctI_intro (own := RX4) (lv := [(0, rv B th), (1, jv a0), (3, rv B a1)]) (by decide +kernel) rfl (Nat.le_of_ble_eq_true rfl) rfl (fun X hX => ?_)
  unfold fX4_choose
  refine s_lload_n 1 dX4_choose_0 rfl rfl ?_
  refine s_lstore (lv' := [(4, jv a0), (0, rv B th), (1, jv a0), (3, rv B a1)]) dX4_choose_1 (by decide) rfl ?_
  refine s_sub [1, 3, 0] (lv' := [(0, rv B th), (3, rv B a1), (4, jv a0)]) rfl ?_
  refine fX4_choose_L3_s hX th hth a1 ha1 _ ?_ fu a0 σ
  intro x9 s9
  refine s_aload_n 0 dX4_choose_104 rfl rfl ?_
  refine s_geti dX4_choose_105 ly4 fl_X4_28 hth rfl ?_
  refine s_jn (fun (j2 : Int → Mem → PR) => ∀ (x10 : Int) (s12 : Mem), SX4_choose B X (j2 x10 s12) s12 126 [] [iv x10]) ?_ (fun j2 hj2 => ?_)
  · intro x10 s10
    exact s_iret hX dX4_choose_126
  · refine s_if_ne (tgt := 115) dX4_choose_108 (by decide) ?_ ?_
    · refine s_lload 1 dX4_choose_115 rfl ?_
      refine s_aload_n 0 dX4_choose_117 rfl rfl ?_
      refine s_geti dX4_choose_118 ly4 fl_X4_31 hth rfl ?_
      refine s_i2l dX4_choose_121 ?_
      refine s_Nl (rest := []) dX4_choose_122 nk_X4_34 meX6_parts (ctX6_parts B fu x9 (w32 (s9 th 5)) s9) rfl rfl ⟨rfl, rfl, by decide, by decide⟩ (Nat.le_of_ble_eq_true rfl) (fun x11 s11 => ?_)
      refine s_l2i dX4_choose_125 ?_
      exact s_sub [] rfl (hj2 x11 s11)
    · refine s_iconst dX4_choose_111 ?_
      refine s_goto (tgt := 126) dX4_choose_112 (by decide) ?_
      exact s_sub [] rfl (hj2 (-1) s9)
abbrev rmX2_chooseAll : Room := { frames := 2, cells := 0, slots := 0, locals := 49 }
abbrev SX2_chooseAll (B : Nat) (X : Ctx) := Sim cX2_chooseAll RX2 5 rmX2_chooseAll B X
set_option maxHeartbeats 4000000 in
set_option maxRecDepth 100000 in
theorem fX2_chooseAll_L4_s {B fu : Nat} {X : Ctx} (hX : CxI .boolean B X) (k79 : Int → Mem → PR) (hk79 : ∀ (x3 : Int) (s12 : Mem), SX2_chooseAll B X (k79 x3 s12) s12 79 [(1, iv x3)] []) : ∀ (n : Nat) (x1 : Int) (x2 : Int) (s11 : Mem), SX2_chooseAll B X (fX2_chooseAll_L4 fu k79 n x1 x2 s11) s11 4 [(0, rv B 136), (1, iv x1), (2, iv x2)] [] := by
  intro n
  induction n with
  | zero => intro _ _ _; exact s_none
  | succ n ih =>
    intro x1 x2 s1
    rw [fX2_chooseAll_L4]
    refine s_iload_n 2 dX2_chooseAll_4 rfl rfl ?_
    refine s_bipush dX2_chooseAll_5 (by decide) ?_
    refine s_icmp_ge (tgt := 79) dX2_chooseAll_7 (by decide) ?_ ?_
    · exact s_sub [1] rfl (hk79 x1 s1)
    · refine s_aload_n 0 dX2_chooseAll_10 rfl rfl ?_
      refine s_getr (n := 133) (k' := 270) dX2_chooseAll_11 ly2 fl_X2_21 kd_136 rfl rfl rfl ?_
      refine s_iload_n 2 dX2_chooseAll_14 rfl rfl ?_
      refine s_aals dX2_chooseAll_15 (fun p1 hp1 => ?_)
      refine s_astore_n (lv' := [(3, rv B p1), (0, rv B 136), (1, iv x1), (2, iv x2)]) dX2_chooseAll_16 rfl (by decide) rfl ?_
      refine s_iload_n 3 dX2_chooseAll_17 rfl rfl ?_
      refine s_aload_n 1 dX2_chooseAll_18 rfl rfl ?_
      refine s_geti dX2_chooseAll_19 ly2 fl_X2_82 kd_136 rfl ?_
      refine s_jn (fun (j1 : Int → Mem → PR) => ∀ (x4 : Int) (s10 : Mem), SX2_chooseAll B X (j1 x4 s10) s10 73 [(0, rv B 136), (1, iv x4), (2, iv x2)] []) ?_ (fun j1 hj1 => ?_)
      · intro x4 s2
        refine s_iinc (lv' := [(2, iv (x2 + 1)), (0, rv B 136), (1, iv x4)]) 2 dX2_chooseAll_73 rfl (by decide) rfl ?_
        refine s_goto (tgt := 4) dX2_chooseAll_76 (by decide) ?_
        exact s_sub [1, 2, 0] rfl (ih x4 (x2 + 1) s2)
      · refine s_icmp_eq (tgt := 73) dX2_chooseAll_22 (by decide) ?_ ?_
        · exact s_sub [1, 2, 3] rfl (hj1 x1 s1)
        · refine s_aload_n 0 dX2_chooseAll_25 rfl rfl ?_
          refine s_geti dX2_chooseAll_26 ly4 fl_X2_63 hp1 rfl ?_
          refine s_if_ne (tgt := 73) dX2_chooseAll_29 (by decide) ?_ ?_
          · exact s_sub [1, 2, 3] rfl (hj1 x1 s1)
          · refine s_aload_n 0 dX2_chooseAll_32 rfl rfl ?_
            refine s_geti dX2_chooseAll_33 ly4 fl_X2_85 hp1 rfl ?_
            refine s_lti (fun x5 => ?_)
            refine s_istore (lv' := [(4, iv x5), (3, rv B p1), (0, rv B 136), (1, iv x1), (2, iv x2)]) dX2_chooseAll_36 (by decide) rfl ?_
            refine s_aload_n 1 dX2_chooseAll_38 rfl rfl ?_
            refine s_aload_n 1 dX2_chooseAll_39 rfl rfl ?_
            refine s_aload_n 2 dX2_chooseAll_40 rfl rfl ?_
            refine s_Vl (rest := [rv B p1, rv B p1]) dX2_chooseAll_41 lk_X2_114 meX2_waitingWeight (ctX2_waitingWeight B fu s1) kd_136 ⟨rfl, by decide⟩ rfl rfl ⟨rfl, rfl, by decide, by decide⟩ (Nat.le_of_ble_eq_true rfl) (fun x6 s3 => ?_)
            refine s_aload_n 2 dX2_chooseAll_44 rfl rfl ?_
            refine s_getd dX2_chooseAll_45 ly2 fl_X2_13 kd_136 rfl rfl (fun p2 hp2 => ?_)
            refine s_Vi (rest := [rv B p1]) dX2_chooseAll_48 lk_X2_118 meX4_choose (ctX4_choose B fu p1 hp1 x6 p2 hp2 s3) hp1 ⟨rfl, by decide⟩ rfl rfl ⟨rfl, rfl, by decide, by decide⟩ (Nat.le_of_ble_eq_true rfl) (fun x7 s4 => ?_)
            refine s_puti dX2_chooseAll_51 ly4 ty4 fl_X2_85 hp1 rfl po4_2 ⟨rfl, rfl, by decide⟩ (fun s5 => ?_)
            refine s_iload_n 3 dX2_chooseAll_54 rfl rfl ?_
            refine s_jn (fun (j2 : Int → Mem → PR) => ∀ (x8 : Int) (s9 : Mem), SX2_chooseAll B X (j2 x8 s9) s9 72 [(0, rv B 136), (2, iv x2)] [iv x8]) ?_ (fun j2 hj2 => ?_)
            · intro x8 s6
              refine s_istore_n (lv' := [(1, iv x8), (0, rv B 136), (2, iv x2)]) dX2_chooseAll_72 rfl (by decide) rfl ?_
              exact s_sub [1, 0, 2] rfl (hj1 x8 s6)
            · refine s_jn (fun (j3 : Mem → PR) => ∀ (s8 : Mem), SX2_chooseAll B X (j3 s8) s8 67 [(0, rv B 136), (2, iv x2)] []) ?_ (fun j3 hj3 => ?_)
              · intro s7
                refine s_iconst dX2_chooseAll_67 ?_
                refine s_goto (tgt := 72) dX2_chooseAll_68 (by decide) ?_
                exact hj2 1 s7
              · refine s_if_ne (tgt := 67) dX2_chooseAll_55 (by decide) ?_ ?_
                · exact s_sub [2, 4] rfl (hj3 s5)
                · refine s_aload_n 1 dX2_chooseAll_58 rfl rfl ?_
                  refine s_geti dX2_chooseAll_59 ly4 fl_X2_85 hp1 rfl ?_
                  refine s_iload 0 dX2_chooseAll_62 rfl ?_
                  refine s_icmp_eq (tgt := 71) dX2_chooseAll_64 (by decide) ?_ ?_
                  · refine s_iconst dX2_chooseAll_71 ?_
                    exact s_sub [2, 4] rfl (hj2 0 s5)
                  · exact s_sub [2, 4] rfl (hj3 s5)
set_option maxHeartbeats 4000000 in
set_option maxRecDepth 100000 in
theorem ctX2_chooseAll (B fu : Nat) (σ : Mem) : CtI yX2_chooseAll cX2_chooseAll 5 (some .boolean) rmX2_chooseAll B [rv B 136] σ (fX2_chooseAll fu σ) := by
  refine ctI_intro (own := RX2) (lv := [(0, rv B 136)]) (by decide +kernel) rfl (Nat.le_of_ble_eq_true rfl) rfl (fun X hX => ?_)
  unfold fX2_chooseAll
  refine s_iconst dX2_chooseAll_0 ?_
  refine s_istore_n (lv' := [(1, iv 0), (0, rv B 136)]) dX2_chooseAll_1 rfl (by decide) rfl ?_
  refine s_iconst dX2_chooseAll_2 ?_
  refine s_istore_n (lv' := [(2, iv 0), (1, iv 0), (0, rv B 136)]) dX2_chooseAll_3 rfl (by decide) rfl ?_
  refine s_sub [2, 1, 0] (lv' := [(0, rv B 136), (1, iv 0), (2, iv 0)]) rfl ?_
  refine fX2_chooseAll_L4_s hX _ ?_ fu 0 0 σ
  intro x9 s13
  refine s_iload_n 0 dX2_chooseAll_79 rfl rfl ?_
  exact s_zret hX dX2_chooseAll_80
abbrev rmX4_forgetOffers : Room := { frames := 0, cells := 0, slots := 0, locals := 0 }
abbrev SX4_forgetOffers (B : Nat) (X : Ctx) := Sim cX4_forgetOffers RX4 1 rmX4_forgetOffers B X
set_option maxHeartbeats 4000000 in
set_option maxRecDepth 100000 in
theorem ctX4_forgetOffers (B fu : Nat) (th : Nat) (hth : kd th = 4) (σ : Mem) : CtV yX4_forgetOffers cX4_forgetOffers 1 none rmX4_forgetOffers B [rv B th] σ (fX4_forgetOffers fu th σ) := by
  refine ctV_intro (own := RX4) (lv := [(0, rv B th)]) (by decide +kernel) rfl (Nat.le_of_ble_eq_true rfl) rfl (fun X hX => ?_)
  unfold fX4_forgetOffers
  refine s_aload_n 0 dX4_forgetOffers_0 rfl rfl ?_
  refine s_iconst dX4_forgetOffers_1 ?_
  refine s_puti dX4_forgetOffers_2 ly4 ty4 fl_X4_25 hth rfl po4_3 ⟨rfl, rfl, by decide⟩ (fun s1 => ?_)
  refine s_aload_n 0 dX4_forgetOffers_5 rfl rfl ?_
  refine s_iconst dX4_forgetOffers_6 ?_
  refine s_puti dX4_forgetOffers_7 ly4 ty4 fl_X4_28 hth rfl po4_4 ⟨rfl, rfl, by decide⟩ (fun s2 => ?_)
  refine s_aload_n 0 dX4_forgetOffers_10 rfl rfl ?_
  refine s_iconst dX4_forgetOffers_11 ?_
  refine s_puti dX4_forgetOffers_12 ly4 ty4 fl_X4_31 hth rfl po4_5 ⟨rfl, rfl, by decide⟩ (fun s3 => ?_)
  exact s_vret hX dX4_forgetOffers_15
abbrev rmX4_offer : Room := { frames := 0, cells := 0, slots := 0, locals := 0 }
abbrev SX4_offer (B : Nat) (X : Ctx) := Sim cX4_offer RX4 5 rmX4_offer B X
set_option maxHeartbeats 4000000 in
set_option maxRecDepth 100000 in
theorem fX4_offer_L16_s {B fu : Nat} {X : Ctx} (hX : CxV B X) (p1 : Nat) (hp1 : kd p1 = 4) (c1 : Int) (c2 : Int) (c3 : Int) (k88 : Int → Mem → PR) (hk88 : ∀ (x3 : Int) (s6 : Mem), SX4_offer B X (k88 x3 s6) s6 88 [(0, rv B p1), (1, iv c1), (2, iv c2), (3, iv c3), (4, iv x3)] []) : ∀ (n : Nat) (x2 : Int) (s5 : Mem), SX4_offer B X (fX4_offer_L16 fu p1 c1 c2 c3 k88 n x2 s5) s5 16 [(0, rv B p1), (1, iv c1), (2, iv c2), (3, iv c3), (4, iv x2)] [] := by
  intro n
  induction n with
  | zero => intro _ _; exact s_none
  | succ n ih =>
    intro x2 s1
    rw [fX4_offer_L16]
    refine s_iload 4 dX4_offer_16 rfl ?_
    refine s_if_le (tgt := 88) dX4_offer_18 (by decide) ?_ ?_
    · exact hk88 x2 s1
    · refine s_aload_n 0 dX4_offer_21 rfl rfl ?_
      refine s_getr (n := 2) (k' := p1 + 3) dX4_offer_22 ly4 fl_X4_22 hp1 rfl rfl rfl ?_
      refine s_iload 4 dX4_offer_25 rfl ?_
      refine s_iconst dX4_offer_27 ?_
      refine s_isub dX4_offer_28 ?_
      refine s_iald 12 dX4_offer_29 (kdS3 hp1) (by decide) (fun x4 => ?_)
      refine s_iload_n 3 dX4_offer_30 rfl rfl ?_
      refine s_icmp_le (tgt := 88) dX4_offer_31 (by decide) ?_ ?_
      · exact hk88 x2 s1
      · refine s_aload_n 0 dX4_offer_34 rfl rfl ?_
        refine s_getr (n := 0) (k' := p1 + 1) dX4_offer_35 ly4 fl_X4_15 hp1 rfl rfl rfl ?_
        refine s_iload 4 dX4_offer_38 rfl ?_
        refine s_aload_n 0 dX4_offer_40 rfl rfl ?_
        refine s_getr (n := 0) (k' := p1 + 1) dX4_offer_41 ly4 fl_X4_15 hp1 rfl rfl rfl ?_
        refine s_iload 4 dX4_offer_44 rfl ?_
        refine s_iconst dX4_offer_46 ?_
        refine s_isub dX4_offer_47 ?_
        refine s_iald 12 dX4_offer_48 (kdS1 hp1) (by decide) (fun x5 => ?_)
        refine s_iast 12 dX4_offer_49 (kdS1 hp1) (by decide) (fun s2 => ?_)
        refine s_aload_n 0 dX4_offer_50 rfl rfl ?_
        refine s_getr (n := 1) (k' := p1 + 2) dX4_offer_51 ly4 fl_X4_19 hp1 rfl rfl rfl ?_
        refine s_iload 4 dX4_offer_54 rfl ?_
        refine s_aload_n 0 dX4_offer_56 rfl rfl ?_
        refine s_getr (n := 1) (k' := p1 + 2) dX4_offer_57 ly4 fl_X4_19 hp1 rfl rfl rfl ?_
        refine s_iload 4 dX4_offer_60 rfl ?_
        refine s_iconst dX4_offer_62 ?_
        refine s_isub dX4_offer_63 ?_
        refine s_iald 12 dX4_offer_64 (kdS2 hp1) (by decide) (fun x6 => ?_)
        refine s_iast 12 dX4_offer_65 (kdS2 hp1) (by decide) (fun s3 => ?_)
        refine s_aload_n 0 dX4_offer_66 rfl rfl ?_
        refine s_getr (n := 2) (k' := p1 + 3) dX4_offer_67 ly4 fl_X4_22 hp1 rfl rfl rfl ?_
        refine s_iload 4 dX4_offer_70 rfl ?_
        refine s_aload_n 0 dX4_offer_72 rfl rfl ?_
        refine s_getr (n := 2) (k' := p1 + 3) dX4_offer_73 ly4 fl_X4_22 hp1 rfl rfl rfl ?_
        refine s_iload 4 dX4_offer_76 rfl ?_
        refine s_iconst dX4_offer_78 ?_
        refine s_isub dX4_offer_79 ?_
        refine s_iald 12 dX4_offer_80 (kdS3 hp1) (by decide) (fun x7 => ?_)
        refine s_iast 12 dX4_offer_81 (kdS3 hp1) (by decide) (fun s4 => ?_)
        refine s_iinc (lv' := [(4, iv (x2 + (-1))), (0, rv B p1), (1, iv c1), (2, iv c2), (3, iv c3)]) 4 dX4_offer_82 rfl (by decide) rfl ?_
        refine s_goto (tgt := 16) dX4_offer_85 (by decide) ?_
        exact s_sub [1, 2, 3, 4, 0] rfl (ih (x2 + (-1)) s4)
set_option maxHeartbeats 4000000 in
set_option maxRecDepth 100000 in
theorem ctX4_offer (B fu : Nat) (th : Nat) (hth : kd th = 4) (a0 : Int) (a1 : Int) (a2 : Int) (σ : Mem) : CtV yX4_offer cX4_offer 5 none rmX4_offer B [rv B th, iv a0, iv a1, iv a2] σ (fX4_offer fu th a0 a1 a2 σ) := by
  refine ctV_intro (own := RX4) (lv := [(0, rv B th), (1, iv a0), (2, iv a1), (3, iv a2)]) (by decide +kernel) rfl (Nat.le_of_ble_eq_true rfl) rfl (fun X hX => ?_)
  unfold fX4_offer
  refine s_aload_n 0 dX4_offer_0 rfl rfl ?_
  refine s_geti dX4_offer_1 ly4 fl_X4_25 hth rfl ?_
  refine s_bipush dX4_offer_4 (by decide) ?_
  refine s_icmp_lt (tgt := 10) dX4_offer_6 (by decide) ?_ ?_
  · refine s_aload_n 0 dX4_offer_10 rfl rfl ?_
    refine s_geti dX4_offer_11 ly4 fl_X4_25 hth rfl ?_
    refine s_lti (fun x1 => ?_)
    refine s_istore (lv' := [(4, iv x1), (0, rv B th), (1, iv a0), (2, iv a1), (3, iv a2)]) dX4_offer_14 (by decide) rfl ?_
    refine s_sub [1, 2, 3, 4, 0] (lv' := [(0, rv B th), (1, iv a0), (2, iv a1), (3, iv a2), (4, iv x1)]) rfl ?_
    refine fX4_offer_L16_s hX th hth a0 a1 a2 _ ?_ fu x1 σ
    intro x8 s7
    refine s_aload_n 0 dX4_offer_88 rfl rfl ?_
    refine s_getr (n := 0) (k' := th + 1) dX4_offer_89 ly4 fl_X4_15 hth rfl rfl rfl ?_
    refine s_iload 4 dX4_offer_92 rfl ?_
    refine s_iload_n 1 dX4_offer_94 rfl rfl ?_
    refine s_iast 12 dX4_offer_95 (kdS1 hth) (by decide) (fun s8 => ?_)
    refine s_aload_n 0 dX4_offer_96 rfl rfl ?_
    refine s_getr (n := 1) (k' := th + 2) dX4_offer_97 ly4 fl_X4_19 hth rfl rfl rfl ?_
    refine s_iload 4 dX4_offer_100 rfl ?_
    refine s_iload_n 2 dX4_offer_102 rfl rfl ?_
    refine s_iast 12 dX4_offer_103 (kdS2 hth) (by decide) (fun s9 => ?_)
    refine s_aload_n 0 dX4_offer_104 rfl rfl ?_
    refine s_getr (n := 2) (k' := th + 3) dX4_offer_105 ly4 fl_X4_22 hth rfl rfl rfl ?_
    refine s_iload 4 dX4_offer_108 rfl ?_
    refine s_iload_n 3 dX4_offer_110 rfl rfl ?_
    refine s_iast 12 dX4_offer_111 (kdS3 hth) (by decide) (fun s10 => ?_)
    refine s_aload_n 0 dX4_offer_112 rfl rfl ?_
    refine s_dup dX4_offer_113 rfl ?_
    refine s_geti dX4_offer_114 ly4 fl_X4_25 hth rfl ?_
    refine s_iconst dX4_offer_117 ?_
    refine s_iadd dX4_offer_118 ?_
    refine s_puti dX4_offer_119 ly4 ty4 fl_X4_25 hth rfl po4_3 ⟨rfl, rfl, by decide⟩ (fun s11 => ?_)
    exact s_vret hX dX4_offer_122
  · exact s_vret hX dX4_offer_9
abbrev rmX2_collectOffers : Room := { frames := 2, cells := 0, slots := 0, locals := 47 }
abbrev SX2_collectOffers (B : Nat) (X : Ctx) := Sim cX2_collectOffers RX2 5 rmX2_collectOffers B X
set_option maxHeartbeats 4000000 in
set_option maxRecDepth 100000 in
theorem fX2_collectOffers_L2_s {B fu : Nat} {X : Ctx} (hX : CxV B X) (k23 : Mem → PR) (hk23 : ∀ (s4 : Mem), SX2_collectOffers B X (k23 s4) s4 23 [(0, rv B 136)] []) : ∀ (n : Nat) (x1 : Int) (s3 : Mem), SX2_collectOffers B X (fX2_collectOffers_L2 fu k23 n x1 s3) s3 2 [(0, rv B 136), (1, iv x1)] [] := by
  intro n
  induction n with
  | zero => intro _ _; exact s_none
  | succ n ih =>
    intro x1 s1
    rw [fX2_collectOffers_L2]
    refine s_iload_n 1 dX2_collectOffers_2 rfl rfl ?_
    refine s_bipush dX2_collectOffers_3 (by decide) ?_
    refine s_icmp_ge (tgt := 23) dX2_collectOffers_5 (by decide) ?_ ?_
    · exact s_sub [0] rfl (hk23 s1)
    · refine s_aload_n 0 dX2_collectOffers_8 rfl rfl ?_
      refine s_getr (n := 133) (k' := 270) dX2_collectOffers_9 ly2 fl_X2_21 kd_136 rfl rfl rfl ?_
      refine s_iload_n 1 dX2_collectOffers_12 rfl rfl ?_
      refine s_aals dX2_collectOffers_13 (fun p1 hp1 => ?_)
      refine s_Vv (rest := []) dX2_collectOffers_14 lk_X2_98 meX4_forgetOffers (ctX4_forgetOffers B fu p1 hp1 s1) hp1 ⟨rfl, by decide⟩ rfl rfl ⟨rfl, rfl, by decide, by decide⟩ (Nat.le_of_ble_eq_true rfl) (fun _ s2 => ?_)
      refine s_iinc (lv' := [(1, iv (x1 + 1)), (0, rv B 136)]) 1 dX2_collectOffers_17 rfl (by decide) rfl ?_
      refine s_goto (tgt := 2) dX2_collectOffers_20 (by decide) ?_
      exact s_sub [1, 0] rfl (ih (x1 + 1) s2)
set_option maxHeartbeats 4000000 in
set_option maxRecDepth 100000 in
theorem fX2_collectOffers_L50_s {B fu : Nat} {X : Ctx} (hX : CxV B X) (c1 : Int) (p4 : Nat) (hp4 : kd p4 = 1) (k131 : Mem → PR) (hk131 : ∀ (s13 : Mem), SX2_collectOffers B X (k131 s13) s13 131 [(0, rv B 136), (1, iv c1)] []) : ∀ (n : Nat) (x3 : Int) (s12 : Mem), SX2_collectOffers B X (fX2_collectOffers_L50 fu c1 p4 k131 n x3 s12) s12 50 [(0, rv B 136), (1, iv c1), (2, rv B p4), (3, iv x3)] [] := by
  intro n
  induction n with
  | zero => intro _ _; exact s_none
  | succ n ih =>
    intro x3 s8
    rw [fX2_collectOffers_L50]
    refine s_iload_n 3 dX2_collectOffers_50 rfl rfl ?_
    refine s_aload_n 2 dX2_collectOffers_51 rfl rfl ?_
    refine s_geti dX2_collectOffers_52 ly1 fl_X2_77 hp4 rfl ?_
    refine s_iconst dX2_collectOffers_55 ?_
    refine s_isub dX2_collectOffers_56 ?_
    refine s_icmp_ge (tgt := 131) dX2_collectOffers_57 (by decide) ?_ ?_
    · exact s_sub [0, 1] rfl (hk131 s8)
    · refine s_aload_n 2 dX2_collectOffers_60 rfl rfl ?_
      refine s_geti dX2_collectOffers_61 ly1 fl_X2_67 hp4 rfl ?_
      refine s_if_ne (tgt := 131) dX2_collectOffers_64 (by decide) ?_ ?_
      · exact s_sub [0, 1] rfl (hk131 s8)
      · refine s_aload_n 2 dX2_collectOffers_67 rfl rfl ?_
        refine s_getr (n := 0) (k' := p4 + 1) dX2_collectOffers_68 ly1 fl_X2_105 hp4 rfl rfl rfl ?_
        refine s_iload_n 3 dX2_collectOffers_71 rfl rfl ?_
        refine s_iald 8 dX2_collectOffers_72 (kdL1 hp4) (by decide) (fun x4 => ?_)
        refine s_istore (lv' := [(4, iv x4), (0, rv B 136), (1, iv c1), (2, rv B p4), (3, iv x3)]) dX2_collectOffers_73 (by decide) rfl ?_
        refine s_aload_n 3 dX2_collectOffers_75 rfl rfl ?_
        refine s_getr (n := 5) (k' := p4 + 6) dX2_collectOffers_76 ly1 fl_X2_107 hp4 rfl rfl rfl ?_
        refine s_iload_n 4 dX2_collectOffers_79 rfl rfl ?_
        refine s_iald 8 dX2_collectOffers_80 (kdL6 hp4) (by decide) (fun x5 => ?_)
        refine s_iconst dX2_collectOffers_81 ?_
        refine s_jn (fun (j1 : Mem → PR) => ∀ (s11 : Mem), SX2_collectOffers B X (j1 s11) s11 125 [(0, rv B 136), (1, iv c1), (2, rv B p4), (3, iv x3)] []) ?_ (fun j1 hj1 => ?_)
        · intro s9
          refine s_iinc (lv' := [(3, iv (x3 + 1)), (0, rv B 136), (1, iv c1), (2, rv B p4)]) 3 dX2_collectOffers_125 rfl (by decide) rfl ?_
          refine s_goto (tgt := 50) dX2_collectOffers_128 (by decide) ?_
          exact s_sub [1, 2, 3, 0] rfl (ih (x3 + 1) s9)
        · refine s_icmp_eq (tgt := 125) dX2_collectOffers_82 (by decide) ?_ ?_
          · exact s_sub [1, 2, 3, 4] rfl (hj1 s8)
          · refine s_iload 0 dX2_collectOffers_85 rfl ?_
            refine s_aload_n 1 dX2_collectOffers_87 rfl rfl ?_
            refine s_geti dX2_collectOffers_88 ly2 fl_X2_82 kd_136 rfl ?_
            refine s_icmp_eq (tgt := 125) dX2_collectOffers_91 (by decide) ?_ ?_
            · exact s_sub [1, 2, 3, 4] rfl (hj1 s8)
            · refine s_aload_n 1 dX2_collectOffers_94 rfl rfl ?_
              refine s_getr (n := 133) (k' := 270) dX2_collectOffers_95 ly2 fl_X2_21 kd_136 rfl rfl rfl ?_
              refine s_iload 0 dX2_collectOffers_98 rfl ?_
              refine s_aals dX2_collectOffers_100 (fun p5 hp5 => ?_)
              refine s_geti dX2_collectOffers_101 ly4 fl_X2_63 hp5 rfl ?_
              refine s_if_ne (tgt := 125) dX2_collectOffers_104 (by decide) ?_ ?_
              · exact s_sub [1, 2, 3, 4] rfl (hj1 s8)
              · refine s_aload_n 1 dX2_collectOffers_107 rfl rfl ?_
                refine s_getr (n := 133) (k' := 270) dX2_collectOffers_108 ly2 fl_X2_21 kd_136 rfl rfl rfl ?_
                refine s_iload 0 dX2_collectOffers_111 rfl ?_
                refine s_aals dX2_collectOffers_113 (fun p6 hp6 => ?_)
                refine s_iload_n 2 dX2_collectOffers_114 rfl rfl ?_
                refine s_iload_n 4 dX2_collectOffers_115 rfl rfl ?_
                refine s_aload_n 3 dX2_collectOffers_116 rfl rfl ?_
                refine s_getr (n := 5) (k' := p4 + 6) dX2_collectOffers_117 ly1 fl_X2_107 hp4 rfl rfl rfl ?_
                refine s_iload_n 4 dX2_collectOffers_120 rfl rfl ?_
                refine s_iald 8 dX2_collectOffers_121 (kdL6 hp4) (by decide) (fun x6 => ?_)
                refine s_Vv (rest := []) dX2_collectOffers_122 lk_X2_110 meX4_offer (ctX4_offer B fu p6 hp6 c1 x3 x6 s8) hp6 ⟨rfl, by decide⟩ rfl rfl ⟨rfl, rfl, by decide, by decide⟩ (Nat.le_of_ble_eq_true rfl) (fun _ s10 => ?_)
                exact s_sub [1, 2, 3, 4] rfl (hj1 s10)
set_option maxHeartbeats 4000000 in
set_option maxRecDepth 100000 in
theorem fX2_collectOffers_L25_s {B fu : Nat} {X : Ctx} (hX : CxV B X) (k137 : Mem → PR) (hk137 : ∀ (s16 : Mem), SX2_collectOffers B X (k137 s16) s16 137 [] []) : ∀ (n : Nat) (x2 : Int) (s15 : Mem), SX2_collectOffers B X (fX2_collectOffers_L25 fu k137 n x2 s15) s15 25 [(0, rv B 136), (1, iv x2)] [] := by
  intro n
  induction n with
  | zero => intro _ _; exact s_none
  | succ n ih =>
    intro x2 s6
    rw [fX2_collectOffers_L25]
    refine s_iload_n 1 dX2_collectOffers_25 rfl rfl ?_
    refine s_aload_n 0 dX2_collectOffers_26 rfl rfl ?_
    refine s_geti dX2_collectOffers_27 ly2 fl_X2_41 kd_136 rfl ?_
    refine s_icmp_ge (tgt := 137) dX2_collectOffers_30 (by decide) ?_ ?_
    · exact s_sub [] rfl (hk137 s6)
    · refine s_aload_n 0 dX2_collectOffers_33 rfl rfl ?_
      refine s_getd dX2_collectOffers_34 ly2 fl_X2_13 kd_136 rfl rfl (fun p2 hp2 => ?_)
      refine s_iload_n 1 dX2_collectOffers_37 rfl rfl ?_
      refine s_aald dX2_collectOffers_38 hp2 (fun p3 hp3 => ?_)
      refine s_astore_n (lv' := [(2, rv B p3), (0, rv B 136), (1, iv x2)]) dX2_collectOffers_39 rfl (by decide) rfl ?_
      refine s_aload_n 0 dX2_collectOffers_40 rfl rfl ?_
      refine s_aload_n 1 dX2_collectOffers_41 rfl rfl ?_
      refine s_getr (n := 133) (k' := 270) dX2_collectOffers_42 ly2 fl_X2_21 kd_136 rfl rfl rfl ?_
      refine s_Vv (rest := []) dX2_collectOffers_45 lk_X2_101 meX1_findRides (ctX1_findRides B fu p3 hp3 s6) hp3 ⟨rfl, by decide⟩ rfl rfl ⟨rfl, rfl, by decide, by decide⟩ (Nat.le_of_ble_eq_true rfl) (fun _ s7 => ?_)
      refine s_iconst dX2_collectOffers_48 ?_
      refine s_istore_n (lv' := [(3, iv 0), (2, rv B p3), (0, rv B 136), (1, iv x2)]) dX2_collectOffers_49 rfl (by decide) rfl ?_
      refine s_sub [2, 3, 1, 0] (lv' := [(0, rv B 136), (1, iv x2), (2, rv B p3), (3, iv 0)]) rfl ?_
      refine fX2_collectOffers_L50_s hX x2 p3 hp3 _ ?_ fu 0 s7
      intro s14
      refine s_iinc (lv' := [(1, iv (x2 + 1)), (0, rv B 136)]) 1 dX2_collectOffers_131 rfl (by decide) rfl ?_
      refine s_goto (tgt := 25) dX2_collectOffers_134 (by decide) ?_
      exact s_sub [1, 0] rfl (ih (x2 + 1) s14)
set_option maxHeartbeats 4000000 in
set_option maxRecDepth 100000 in
theorem ctX2_collectOffers (B fu : Nat) (σ : Mem) : CtV yX2_collectOffers cX2_collectOffers 5 none rmX2_collectOffers B [rv B 136] σ (fX2_collectOffers fu σ) := by
  refine ctV_intro (own := RX2) (lv := [(0, rv B 136)]) (by decide +kernel) rfl (Nat.le_of_ble_eq_true rfl) rfl (fun X hX => ?_)
  unfold fX2_collectOffers
  refine s_iconst dX2_collectOffers_0 ?_
  refine s_istore_n (lv' := [(1, iv 0), (0, rv B 136)]) dX2_collectOffers_1 rfl (by decide) rfl ?_
  refine s_sub [1, 0] (lv' := [(0, rv B 136), (1, iv 0)]) rfl ?_
  refine fX2_collectOffers_L2_s hX _ ?_ fu 0 σ
  intro s5
  refine s_iconst dX2_collectOffers_23 ?_
  refine s_istore_n (lv' := [(1, iv 0), (0, rv B 136)]) dX2_collectOffers_24 rfl (by decide) rfl ?_
  refine s_sub [1, 0] (lv' := [(0, rv B 136), (1, iv 0)]) rfl ?_
  refine fX2_collectOffers_L25_s hX _ ?_ fu 0 s5
  intro s17
  exact s_vret hX dX2_collectOffers_137
abbrev rmX2_findCosts : Room := { frames := 3, cells := 0, slots := 0, locals := 73 }
abbrev SX2_findCosts (B : Nat) (X : Ctx) := Sim cX2_findCosts RX2 2 rmX2_findCosts B X
set_option maxHeartbeats 4000000 in
set_option maxRecDepth 100000 in
theorem fX2_findCosts_L2_s {B fu : Nat} {X : Ctx} (hX : CxV B X) (k48 : Mem → PR) (hk48 : ∀ (s8 : Mem), SX2_findCosts B X (k48 s8) s8 48 [(0, rv B 136)] []) : ∀ (n : Nat) (x1 : Int) (s7 : Mem), SX2_findCosts B X (fX2_findCosts_L2 fu k48 n x1 s7) s7 2 [(0, rv B 136), (1, iv x1)] [] := by
  intro n
  induction n with
  | zero => intro _ _; exact s_none
  | succ n ih =>
    intro x1 s1
    rw [fX2_findCosts_L2]
    refine s_iload_n 1 dX2_findCosts_2 rfl rfl ?_
    refine s_bipush dX2_findCosts_3 (by decide) ?_
    refine s_icmp_ge (tgt := 48) dX2_findCosts_5 (by decide) ?_ ?_
    · exact s_sub [0] rfl (hk48 s1)
    · refine s_aload_n 0 dX2_findCosts_8 rfl rfl ?_
      refine s_getr (n := 133) (k' := 270) dX2_findCosts_9 ly2 fl_X2_21 kd_136 rfl rfl rfl ?_
      refine s_iload_n 1 dX2_findCosts_12 rfl rfl ?_
      refine s_aals dX2_findCosts_13 (fun p1 hp1 => ?_)
      refine s_iload_n 1 dX2_findCosts_14 rfl rfl ?_
      refine s_aload_n 0 dX2_findCosts_15 rfl rfl ?_
      refine s_geti dX2_findCosts_16 ly2 fl_X2_82 kd_136 rfl ?_
      refine s_jn (fun (j1 : Int → Mem → PR) => ∀ (x2 : Int) (s6 : Mem), SX2_findCosts B X (j1 x2 s6) s6 39 [(0, rv B 136), (1, iv x1)] [iv x2, rv B p1]) ?_ (fun j1 hj1 => ?_)
      · intro x2 s2
        refine s_puti dX2_findCosts_39 ly4 ty4 fl_X2_85 hp1 rfl po4_2 ⟨rfl, rfl, by decide⟩ (fun s3 => ?_)
        refine s_iinc (lv' := [(1, iv (x1 + 1)), (0, rv B 136)]) 1 dX2_findCosts_42 rfl (by decide) rfl ?_
        refine s_goto (tgt := 2) dX2_findCosts_45 (by decide) ?_
        exact s_sub [1, 0] rfl (ih (x1 + 1) s3)
      · refine s_jn (fun (j2 : Mem → PR) => ∀ (s5 : Mem), SX2_findCosts B X (j2 s5) s5 38 [(0, rv B 136), (1, iv x1)] [rv B p1]) ?_ (fun j2 hj2 => ?_)
        · intro s4
          refine s_iconst dX2_findCosts_38 ?_
          exact hj1 (-1) s4
        · refine s_icmp_ne (tgt := 38) dX2_findCosts_19 (by decide) ?_ ?_
          · exact hj2 s1
          · refine s_aload_n 0 dX2_findCosts_22 rfl rfl ?_
            refine s_getr (n := 133) (k' := 270) dX2_findCosts_23 ly2 fl_X2_21 kd_136 rfl rfl rfl ?_
            refine s_iload_n 1 dX2_findCosts_26 rfl rfl ?_
            refine s_aals dX2_findCosts_27 (fun p2 hp2 => ?_)
            refine s_geti dX2_findCosts_28 ly4 fl_X2_63 hp2 rfl ?_
            refine s_if_ne (tgt := 38) dX2_findCosts_31 (by decide) ?_ ?_
            · exact hj2 s1
            · refine s_iconst dX2_findCosts_34 ?_
              refine s_goto (tgt := 39) dX2_findCosts_35 (by decide) ?_
              exact hj1 0 s1
set_option maxHeartbeats 4000000 in
set_option maxRecDepth 100000 in
theorem fX2_findCosts_L55_s {B fu : Nat} {X : Ctx} (hX : CxV B X) (k91 : Mem → PR) (hk91 : ∀ (s16 : Mem), SX2_findCosts B X (k91 s16) s16 91 [] []) : ∀ (n : Nat) (x3 : Int) (s15 : Mem), SX2_findCosts B X (fX2_findCosts_L55 fu k91 n x3 s15) s15 55 [(0, rv B 136), (1, iv x3)] [] := by
  intro n
  induction n with
  | zero => intro _ _; exact s_none
  | succ n ih =>
    intro x3 s11
    rw [fX2_findCosts_L55]
    refine s_iload_n 1 dX2_findCosts_55 rfl rfl ?_
    refine s_if_eq (tgt := 91) dX2_findCosts_56 (by decide) ?_ ?_
    · exact s_sub [] rfl (hk91 s11)
    · refine s_aload_n 0 dX2_findCosts_59 rfl rfl ?_
      refine s_geti dX2_findCosts_60 ly2 fl_X2_88 kd_136 rfl ?_
      refine s_sipush dX2_findCosts_63 (by decide) ?_
      refine s_icmp_ge (tgt := 91) dX2_findCosts_66 (by decide) ?_ ?_
      · exact s_sub [] rfl (hk91 s11)
      · refine s_aload_n 0 dX2_findCosts_69 rfl rfl ?_
        refine s_Vv (rest := []) dX2_findCosts_70 lk_X2_91 meX2_collectOffers (ctX2_collectOffers B fu s11) kd_136 ⟨rfl, by decide⟩ rfl rfl ⟨rfl, rfl, by decide, by decide⟩ (Nat.le_of_ble_eq_true rfl) (fun _ s12 => ?_)
        refine s_aload_n 0 dX2_findCosts_73 rfl rfl ?_
        refine s_Vi (rest := []) dX2_findCosts_74 lk_X2_94 meX2_chooseAll (ctX2_chooseAll B fu s12) kd_136 ⟨rfl, by decide⟩ rfl rfl ⟨rfl, rfl, by decide, by decide⟩ (Nat.le_of_ble_eq_true rfl) (fun x4 s13 => ?_)
        refine s_istore_n (lv' := [(1, iv x4), (0, rv B 136)]) dX2_findCosts_77 rfl (by decide) rfl ?_
        refine s_aload_n 1 dX2_findCosts_78 rfl rfl ?_
        refine s_dup dX2_findCosts_79 rfl ?_
        refine s_geti dX2_findCosts_80 ly2 fl_X2_88 kd_136 rfl ?_
        refine s_iconst dX2_findCosts_83 ?_
        refine s_iadd dX2_findCosts_84 ?_
        refine s_puti dX2_findCosts_85 ly2 ty2 fl_X2_88 kd_136 rfl po2_7 ⟨rfl, rfl, by decide⟩ (fun s14 => ?_)
        refine s_goto (tgt := 55) dX2_findCosts_88 (by decide) ?_
        exact s_sub [1, 0] rfl (ih x4 s14)
set_option maxHeartbeats 4000000 in
set_option maxRecDepth 100000 in
theorem ctX2_findCosts (B fu : Nat) (σ : Mem) : CtV yX2_findCosts cX2_findCosts 2 none rmX2_findCosts B [rv B 136] σ (fX2_findCosts fu σ) := by
  refine ctV_intro (own := RX2) (lv := [(0, rv B 136)]) (by decide +kernel) rfl (Nat.le_of_ble_eq_true rfl) rfl (fun X hX => ?_)
  unfold fX2_findCosts
  refine s_iconst dX2_findCosts_0 ?_
  refine s_istore_n (lv' := [(1, iv 0), (0, rv B 136)]) dX2_findCosts_1 rfl (by decide) rfl ?_
  refine s_sub [1, 0] (lv' := [(0, rv B 136), (1, iv 0)]) rfl ?_
  refine fX2_findCosts_L2_s hX _ ?_ fu 0 σ
  intro s9
  refine s_aload_n 0 dX2_findCosts_48 rfl rfl ?_
  refine s_iconst dX2_findCosts_49 ?_
  refine s_puti dX2_findCosts_50 ly2 ty2 fl_X2_88 kd_136 rfl po2_7 ⟨rfl, rfl, by decide⟩ (fun s10 => ?_)
  refine s_iconst dX2_findCosts_53 ?_
  refine s_istore_n (lv' := [(1, iv 1), (0, rv B 136)]) dX2_findCosts_54 rfl (by decide) rfl ?_
  refine s_sub [1, 0] (lv' := [(0, rv B 136), (1, iv 1)]) rfl ?_
  refine fX2_findCosts_L55_s hX _ ?_ fu 1 s10
  intro s17
  exact s_vret hX dX2_findCosts_91
abbrev rmX4_takenLines : Room := { frames := 0, cells := 0, slots := 0, locals := 0 }
abbrev SX4_takenLines (B : Nat) (X : Ctx) := Sim cX4_takenLines RX4 3 rmX4_takenLines B X
set_option maxHeartbeats 4000000 in
set_option maxRecDepth 100000 in
theorem fX4_takenLines_L4_s {B fu : Nat} {X : Ctx} (hX : CxI .int B X) (p1 : Nat) (hp1 : kd p1 = 4) (k29 : Int → Mem → PR) (hk29 : ∀ (x3 : Int) (s3 : Mem), SX4_takenLines B X (k29 x3 s3) s3 29 [(1, iv x3)] []) : ∀ (n : Nat) (x1 : Int) (x2 : Int) (s2 : Mem), SX4_takenLines B X (fX4_takenLines_L4 fu p1 k29 n x1 x2 s2) s2 4 [(0, rv B p1), (1, iv x1), (2, iv x2)] [] := by
  intro n
  induction n with
  | zero => intro _ _ _; exact s_none
  | succ n ih =>
    intro x1 x2 s1
    rw [fX4_takenLines_L4]
    refine s_iload_n 2 dX4_takenLines_4 rfl rfl ?_
    refine s_aload_n 0 dX4_takenLines_5 rfl rfl ?_
    refine s_geti dX4_takenLines_6 ly4 fl_X4_28 hp1 rfl ?_
    refine s_icmp_ge (tgt := 29) dX4_takenLines_9 (by decide) ?_ ?_
    · exact s_sub [1] rfl (hk29 x1 s1)
    · refine s_iload_n 1 dX4_takenLines_12 rfl rfl ?_
      refine s_iconst dX4_takenLines_13 ?_
      refine s_aload_n 0 dX4_takenLines_14 rfl rfl ?_
      refine s_getr (n := 0) (k' := p1 + 1) dX4_takenLines_15 ly4 fl_X4_15 hp1 rfl rfl rfl ?_
      refine s_iload_n 2 dX4_takenLines_18 rfl rfl ?_
      refine s_iald 12 dX4_takenLines_19 (kdS1 hp1) (by decide) (fun x4 => ?_)
      refine s_ishl dX4_takenLines_20 ?_
      refine s_ior dX4_takenLines_21 ?_
      refine s_lti (fun x5 => ?_)
      refine s_istore_n (lv' := [(1, iv x5), (0, rv B p1), (2, iv x2)]) dX4_takenLines_22 rfl (by decide) rfl ?_
      refine s_iinc (lv' := [(2, iv (x2 + 1)), (1, iv x5), (0, rv B p1)]) 2 dX4_takenLines_23 rfl (by decide) rfl ?_
      refine s_goto (tgt := 4) dX4_takenLines_26 (by decide) ?_
      exact s_sub [2, 1, 0] rfl (ih x5 (x2 + 1) s1)
set_option maxHeartbeats 4000000 in
set_option maxRecDepth 100000 in
theorem ctX4_takenLines (B fu : Nat) (th : Nat) (hth : kd th = 4) (σ : Mem) : CtI yX4_takenLines cX4_takenLines 3 (some .int) rmX4_takenLines B [rv B th] σ (fX4_takenLines fu th σ) := by
  refine ctI_intro (own := RX4) (lv := [(0, rv B th)]) (by decide +kernel) rfl (Nat.le_of_ble_eq_true rfl) rfl (fun X hX => ?_)
  unfold fX4_takenLines
  refine s_iconst dX4_takenLines_0 ?_
  refine s_istore_n (lv' := [(1, iv 0), (0, rv B th)]) dX4_takenLines_1 rfl (by decide) rfl ?_
  refine s_iconst dX4_takenLines_2 ?_
  refine s_istore_n (lv' := [(2, iv 0), (1, iv 0), (0, rv B th)]) dX4_takenLines_3 rfl (by decide) rfl ?_
  refine s_sub [2, 1, 0] (lv' := [(0, rv B th), (1, iv 0), (2, iv 0)]) rfl ?_
  refine fX4_takenLines_L4_s hX th hth _ ?_ fu 0 0 σ
  intro x6 s4
  refine s_iload_n 0 dX4_takenLines_29 rfl rfl ?_
  exact s_iret hX dX4_takenLines_30
abbrev rmX4_takes : Room := { frames := 1, cells := 0, slots := 0, locals := 22 }
abbrev SX4_takes (B : Nat) (X : Ctx) := Sim cX4_takes RX4 2 rmX4_takes B X
set_option maxHeartbeats 4000000 in
set_option maxRecDepth 100000 in
theorem ctX4_takes (B fu : Nat) (th : Nat) (hth : kd th = 4) (a0 : Int) (σ : Mem) : CtI yX4_takes cX4_takes 2 (some .boolean) rmX4_takes B [rv B th, iv a0] σ (fX4_takes fu th a0 σ) := by
  refine ctI_intro (own := RX4) (lv := [(0, rv B th), (1, iv a0)]) (by decide +kernel) rfl (Nat.le_of_ble_eq_true rfl) rfl (fun X hX => ?_)
  unfold fX4_takes
  refine s_aload_n 0 dX4_takes_0 rfl rfl ?_
  refine s_Vi (rest := []) dX4_takes_1 lk_X4_43 meX4_takenLines (ctX4_takenLines B fu th hth σ) hth ⟨rfl, by decide⟩ rfl rfl ⟨rfl, rfl, by decide, by decide⟩ (Nat.le_of_ble_eq_true rfl) (fun x1 s1 => ?_)
  refine s_iload_n 1 dX4_takes_4 rfl rfl ?_
  refine s_ishr dX4_takes_5 ?_
  refine s_iconst dX4_takes_6 ?_
  refine s_iand dX4_takes_7 ?_
  refine s_iconst dX4_takes_8 ?_
  refine s_jn (fun (j1 : Int → Mem → PR) => ∀ (x2 : Int) (s3 : Mem), SX4_takes B X (j1 x2 s3) s3 17 [] [iv x2]) ?_ (fun j1 hj1 => ?_)
  · intro x2 s2
    exact s_zret hX dX4_takes_17
  · refine s_icmp_ne (tgt := 16) dX4_takes_9 (by decide) ?_ ?_
    · refine s_iconst dX4_takes_16 ?_
      exact s_sub [] rfl (hj1 0 s1)
    · refine s_iconst dX4_takes_12 ?_
      refine s_goto (tgt := 17) dX4_takes_13 (by decide) ?_
      exact s_sub [] rfl (hj1 1 s1)
abbrev rmX2_isTaken : Room := { frames := 2, cells := 0, slots := 0, locals := 43 }
abbrev SX2_isTaken (B : Nat) (X : Ctx) := Sim cX2_isTaken RX2 3 rmX2_isTaken B X
set_option maxHeartbeats 4000000 in
set_option maxRecDepth 100000 in
theorem ctX2_isTaken (B fu : Nat) (a0 : Int) (a1 : Int) (σ : Mem) : CtI yX2_isTaken cX2_isTaken 3 (some .boolean) rmX2_isTaken B [rv B 136, iv a0, iv a1] σ (fX2_isTaken fu a0 a1 σ) := by
  refine ctI_intro (own := RX2) (lv := [(0, rv B 136), (1, iv a0), (2, iv a1)]) (by decide +kernel) rfl (Nat.le_of_ble_eq_true rfl) rfl (fun X hX => ?_)
  unfold fX2_isTaken
  refine s_aload_n 0 dX2_isTaken_0 rfl rfl ?_
  refine s_getr (n := 133) (k' := 270) dX2_isTaken_1 ly2 fl_X2_21 kd_136 rfl rfl rfl ?_
  refine s_aload_n 0 dX2_isTaken_4 rfl rfl ?_
  refine s_getd dX2_isTaken_5 ly2 fl_X2_13 kd_136 rfl rfl (fun p1 hp1 => ?_)
  refine s_iload_n 1 dX2_isTaken_8 rfl rfl ?_
  refine s_aald dX2_isTaken_9 hp1 (fun p2 hp2 => ?_)
  refine s_getr (n := 0) (k' := p2 + 1) dX2_isTaken_10 ly1 fl_X2_105 hp2 rfl rfl rfl ?_
  refine s_iload_n 2 dX2_isTaken_13 rfl rfl ?_
  refine s_iald 8 dX2_isTaken_14 (kdL1 hp2) (by decide) (fun x1 => ?_)
  refine s_aals dX2_isTaken_15 (fun p3 hp3 => ?_)
  refine s_iload_n 1 dX2_isTaken_16 rfl rfl ?_
  refine s_Vi (rest := []) dX2_isTaken_17 lk_X2_122 meX4_takes (ctX4_takes B fu p3 hp3 a0 σ) hp3 ⟨rfl, by decide⟩ rfl rfl ⟨rfl, rfl, by decide, by decide⟩ (Nat.le_of_ble_eq_true rfl) (fun x2 s1 => ?_)
  exact s_zret hX dX2_isTaken_20
abbrev rmX2_stopsWithin : Room := { frames := 1, cells := 0, slots := 0, locals := 20 }
abbrev SX2_stopsWithin (B : Nat) (X : Ctx) := Sim cX2_stopsWithin RX2 5 rmX2_stopsWithin B X
set_option maxHeartbeats 4000000 in
set_option maxRecDepth 100000 in
theorem fX2_stopsWithin_L4_s {B fu : Nat} {X : Ctx} (hX : CxI .int B X) (c1 : Int) (k52 : Int → Mem → PR) (hk52 : ∀ (x3 : Int) (s8 : Mem), SX2_stopsWithin B X (k52 x3 s8) s8 52 [(2, iv x3)] []) : ∀ (n : Nat) (x1 : Int) (x2 : Int) (s7 : Mem), SX2_stopsWithin B X (fX2_stopsWithin_L4 fu c1 k52 n x1 x2 s7) s7 4 [(0, rv B 136), (1, iv c1), (2, iv x1), (3, iv x2)] [] := by
  intro n
  induction n with
  | zero => intro _ _ _; exact s_none
  | succ n ih =>
    intro x1 x2 s1
    rw [fX2_stopsWithin_L4]
    refine s_iload_n 3 dX2_stopsWithin_4 rfl rfl ?_
    refine s_bipush dX2_stopsWithin_5 (by decide) ?_
    refine s_icmp_ge (tgt := 52) dX2_stopsWithin_7 (by decide) ?_ ?_
    · exact s_sub [2] rfl (hk52 x1 s1)
    · refine s_aload_n 0 dX2_stopsWithin_10 rfl rfl ?_
      refine s_getr (n := 133) (k' := 270) dX2_stopsWithin_11 ly2 fl_X2_21 kd_136 rfl rfl rfl ?_
      refine s_iload_n 3 dX2_stopsWithin_14 rfl rfl ?_
      refine s_aals dX2_stopsWithin_15 (fun p1 hp1 => ?_)
      refine s_geti dX2_stopsWithin_16 ly4 fl_X2_85 hp1 rfl ?_
      refine s_lti (fun x4 => ?_)
      refine s_istore (lv' := [(4, iv x4), (0, rv B 136), (1, iv c1), (2, iv x1), (3, iv x2)]) dX2_stopsWithin_19 (by decide) rfl ?_
      refine s_iload_n 3 dX2_stopsWithin_21 rfl rfl ?_
      refine s_iload 0 dX2_stopsWithin_22 rfl ?_
      refine s_iconst dX2_stopsWithin_24 ?_
      refine s_jn (fun (j1 : Int → Mem → PR) => ∀ (x5 : Int) (s6 : Mem), SX2_stopsWithin B X (j1 x5 s6) s6 39 [(0, rv B 136), (1, iv c1), (3, iv x2)] [iv x5, iv x1]) ?_ (fun j1 hj1 => ?_)
      · intro x5 s2
        refine s_Ni (rest := [iv x1]) dX2_stopsWithin_39 nk_X2_70 meX6_bit (ctX6_bit B fu x5 s2) rfl rfl ⟨rfl, rfl, by decide, by decide⟩ (Nat.le_of_ble_eq_true rfl) (fun x6 s3 => ?_)
        refine s_iload_n 2 dX2_stopsWithin_42 rfl rfl ?_
        refine s_ishl dX2_stopsWithin_43 ?_
        refine s_ior dX2_stopsWithin_44 ?_
        refine s_lti (fun x7 => ?_)
        refine s_istore_n (lv' := [(2, iv x7), (0, rv B 136), (1, iv c1), (3, iv x2)]) dX2_stopsWithin_45 rfl (by decide) rfl ?_
        refine s_iinc (lv' := [(3, iv (x2 + 1)), (2, iv x7), (0, rv B 136), (1, iv c1)]) 3 dX2_stopsWithin_46 rfl (by decide) rfl ?_
        refine s_goto (tgt := 4) dX2_stopsWithin_49 (by decide) ?_
        exact s_sub [2, 3, 1, 0] rfl (ih x7 (x2 + 1) s3)
      · refine s_jn (fun (j2 : Mem → PR) => ∀ (s5 : Mem), SX2_stopsWithin B X (j2 s5) s5 38 [(0, rv B 136), (1, iv c1), (3, iv x2)] [iv x1]) ?_ (fun j2 hj2 => ?_)
        · intro s4
          refine s_iconst dX2_stopsWithin_38 ?_
          exact hj1 0 s4
        · refine s_icmp_eq (tgt := 38) dX2_stopsWithin_25 (by decide) ?_ ?_
          · exact s_sub [1, 2, 4] rfl (hj2 s1)
          · refine s_iload 0 dX2_stopsWithin_28 rfl ?_
            refine s_iload_n 2 dX2_stopsWithin_30 rfl rfl ?_
            refine s_icmp_gt (tgt := 38) dX2_stopsWithin_31 (by decide) ?_ ?_
            · exact s_sub [1, 2, 4] rfl (hj2 s1)
            · refine s_iconst dX2_stopsWithin_34 ?_
              refine s_goto (tgt := 39) dX2_stopsWithin_35 (by decide) ?_
              exact s_sub [1, 2, 4] rfl (hj1 1 s1)
set_option maxHeartbeats 4000000 in
set_option maxRecDepth 100000 in
theorem ctX2_stopsWithin (B fu : Nat) (a0 : Int) (σ : Mem) : CtI yX2_stopsWithin cX2_stopsWithin 5 (some .int) rmX2_stopsWithin B [rv B 136, iv a0] σ (fX2_stopsWithin fu a0 σ) := by
  refine ctI_intro (own := RX2) (lv := [(0, rv B 136), (1, iv a0)]) (by decide +kernel) rfl (Nat.le_of_ble_eq_true rfl) rfl (fun X hX => ?_)
  unfold fX2_stopsWithin
  refine s_iconst dX2_stopsWithin_0 ?_
  refine s_istore_n (lv' := [(2, iv 0), (0, rv B 136), (1, iv a0)]) dX2_stopsWithin_1 rfl (by decide) rfl ?_
  refine s_iconst dX2_stopsWithin_2 ?_
  refine s_istore_n (lv' := [(3, iv 0), (2, iv 0), (0, rv B 136), (1, iv a0)]) dX2_stopsWithin_3 rfl (by decide) rfl ?_
  refine s_sub [2, 3, 1, 0] (lv' := [(0, rv B 136), (1, iv a0), (2, iv 0), (3, iv 0)]) rfl ?_
  refine fX2_stopsWithin_L4_s hX a0 _ ?_ fu 0 0 σ
  intro x8 s9
  refine s_iload_n 0 dX2_stopsWithin_52 rfl rfl ?_
  exact s_iret hX dX2_stopsWithin_53
abbrev rmX2_linesInNoSet : Room := { frames := 1, cells := 0, slots := 0, locals := 22 }
abbrev SX2_linesInNoSet (B : Nat) (X : Ctx) := Sim cX2_linesInNoSet RX2 3 rmX2_linesInNoSet B X
set_option maxHeartbeats 4000000 in
set_option maxRecDepth 100000 in
theorem fX2_linesInNoSet_L4_s {B fu : Nat} {X : Ctx} (hX : CxI .int B X) (k28 : Int → Mem → PR) (hk28 : ∀ (x3 : Int) (s4 : Mem), SX2_linesInNoSet B X (k28 x3 s4) s4 28 [(0, rv B 136), (1, iv x3)] []) : ∀ (n : Nat) (x1 : Int) (x2 : Int) (s3 : Mem), SX2_linesInNoSet B X (fX2_linesInNoSet_L4 fu k28 n x1 x2 s3) s3 4 [(0, rv B 136), (1, iv x1), (2, iv x2)] [] := by
  intro n
  induction n with
  | zero => intro _ _ _; exact s_none
  | succ n ih =>
    intro x1 x2 s1
    rw [fX2_linesInNoSet_L4]
    refine s_iload_n 2 dX2_linesInNoSet_4 rfl rfl ?_
    refine s_bipush dX2_linesInNoSet_5 (by decide) ?_
    refine s_icmp_ge (tgt := 28) dX2_linesInNoSet_7 (by decide) ?_ ?_
    · exact s_sub [0, 1] rfl (hk28 x1 s1)
    · refine s_iload_n 1 dX2_linesInNoSet_10 rfl rfl ?_
      refine s_aload_n 0 dX2_linesInNoSet_11 rfl rfl ?_
      refine s_getr (n := 133) (k' := 270) dX2_linesInNoSet_12 ly2 fl_X2_21 kd_136 rfl rfl rfl ?_
      refine s_iload_n 2 dX2_linesInNoSet_15 rfl rfl ?_
      refine s_aals dX2_linesInNoSet_16 (fun p1 hp1 => ?_)
      refine s_Vi (rest := [iv x1]) dX2_linesInNoSet_17 lk_X2_125 meX4_takenLines (ctX4_takenLines B fu p1 hp1 s1) hp1 ⟨rfl, by decide⟩ rfl rfl ⟨rfl, rfl, by decide, by decide⟩ (Nat.le_of_ble_eq_true rfl) (fun x4 s2 => ?_)
      refine s_ior dX2_linesInNoSet_20 ?_
      refine s_lti (fun x5 => ?_)
      refine s_istore_n (lv' := [(1, iv x5), (0, rv B 136), (2, iv x2)]) dX2_linesInNoSet_21 rfl (by decide) rfl ?_
      refine s_iinc (lv' := [(2, iv (x2 + 1)), (1, iv x5), (0, rv B 136)]) 2 dX2_linesInNoSet_22 rfl (by decide) rfl ?_
      refine s_goto (tgt := 4) dX2_linesInNoSet_25 (by decide) ?_
      exact s_sub [2, 1, 0] rfl (ih x5 (x2 + 1) s2)
set_option maxHeartbeats 4000000 in
set_option maxRecDepth 100000 in
theorem ctX2_linesInNoSet (B fu : Nat) (σ : Mem) : CtI yX2_linesInNoSet cX2_linesInNoSet 3 (some .int) rmX2_linesInNoSet B [rv B 136] σ (fX2_linesInNoSet fu σ) := by
  refine ctI_intro (own := RX2) (lv := [(0, rv B 136)]) (by decide +kernel) rfl (Nat.le_of_ble_eq_true rfl) rfl (fun X hX => ?_)
  unfold fX2_linesInNoSet
  refine s_iconst dX2_linesInNoSet_0 ?_
  refine s_istore_n (lv' := [(1, iv 0), (0, rv B 136)]) dX2_linesInNoSet_1 rfl (by decide) rfl ?_
  refine s_iconst dX2_linesInNoSet_2 ?_
  refine s_istore_n (lv' := [(2, iv 0), (1, iv 0), (0, rv B 136)]) dX2_linesInNoSet_3 rfl (by decide) rfl ?_
  refine s_sub [2, 1, 0] (lv' := [(0, rv B 136), (1, iv 0), (2, iv 0)]) rfl ?_
  refine fX2_linesInNoSet_L4_s hX _ ?_ fu 0 0 σ
  intro x6 s5
  refine s_iconst dX2_linesInNoSet_28 ?_
  refine s_aload_n 0 dX2_linesInNoSet_29 rfl rfl ?_
  refine s_geti dX2_linesInNoSet_30 ly2 fl_X2_41 kd_136 rfl ?_
  refine s_ishl dX2_linesInNoSet_33 ?_
  refine s_iconst dX2_linesInNoSet_34 ?_
  refine s_isub dX2_linesInNoSet_35 ?_
  refine s_iload_n 1 dX2_linesInNoSet_36 rfl rfl ?_
  refine s_iconst dX2_linesInNoSet_37 ?_
  refine s_ixor dX2_linesInNoSet_38 ?_
  refine s_iand dX2_linesInNoSet_39 ?_
  exact s_iret hX dX2_linesInNoSet_40
abbrev rmX2_orderStops : Room := { frames := 0, cells := 0, slots := 0, locals := 0 }
abbrev SX2_orderStops (B : Nat) (X : Ctx) := Sim cX2_orderStops RX2 3 rmX2_orderStops B X
set_option maxHeartbeats 4000000 in
set_option maxRecDepth 100000 in
theorem fX2_orderStops_L39_s {B fu : Nat} {X : Ctx} (hX : CxV B X) (c1 : Int) (k91 : Int → Mem → PR) (hk91 : ∀ (x4 : Int) (s7 : Mem), SX2_orderStops B X (k91 x4 s7) s7 91 [(0, rv B 136), (1, iv c1), (2, iv x4)] []) : ∀ (n : Nat) (x3 : Int) (s6 : Mem), SX2_orderStops B X (fX2_orderStops_L39 fu c1 k91 n x3 s6) s6 39 [(0, rv B 136), (1, iv c1), (2, iv x3)] [] := by
  intro n
  induction n with
  | zero => intro _ _; exact s_none
  | succ n ih =>
    intro x3 s4
    rw [fX2_orderStops_L39]
    refine s_iload_n 2 dX2_orderStops_39 rfl rfl ?_
    refine s_if_le (tgt := 91) dX2_orderStops_40 (by decide) ?_ ?_
    · exact hk91 x3 s4
    · refine s_aload_n 0 dX2_orderStops_43 rfl rfl ?_
      refine s_getr (n := 133) (k' := 270) dX2_orderStops_44 ly2 fl_X2_21 kd_136 rfl rfl rfl ?_
      refine s_aload_n 0 dX2_orderStops_47 rfl rfl ?_
      refine s_getr (n := 134) (k' := 271) dX2_orderStops_48 ly2 fl_X2_29 kd_136 rfl rfl rfl ?_
      refine s_iload_n 2 dX2_orderStops_51 rfl rfl ?_
      refine s_iconst dX2_orderStops_52 ?_
      refine s_isub dX2_orderStops_53 ?_
      refine s_iald 10 dX2_orderStops_54 kd_271 (by decide) (fun x5 => ?_)
      refine s_aals dX2_orderStops_55 (fun p2 hp2 => ?_)
      refine s_geti dX2_orderStops_56 ly4 fl_X2_85 hp2 rfl ?_
      refine s_aload_n 0 dX2_orderStops_59 rfl rfl ?_
      refine s_getr (n := 133) (k' := 270) dX2_orderStops_60 ly2 fl_X2_21 kd_136 rfl rfl rfl ?_
      refine s_iload_n 1 dX2_orderStops_63 rfl rfl ?_
      refine s_aals dX2_orderStops_64 (fun p3 hp3 => ?_)
      refine s_geti dX2_orderStops_65 ly4 fl_X2_85 hp3 rfl ?_
      refine s_icmp_ge (tgt := 91) dX2_orderStops_68 (by decide) ?_ ?_
      · exact hk91 x3 s4
      · refine s_aload_n 0 dX2_orderStops_71 rfl rfl ?_
        refine s_getr (n := 134) (k' := 271) dX2_orderStops_72 ly2 fl_X2_29 kd_136 rfl rfl rfl ?_
        refine s_iload_n 2 dX2_orderStops_75 rfl rfl ?_
        refine s_aload_n 0 dX2_orderStops_76 rfl rfl ?_
        refine s_getr (n := 134) (k' := 271) dX2_orderStops_77 ly2 fl_X2_29 kd_136 rfl rfl rfl ?_
        refine s_iload_n 2 dX2_orderStops_80 rfl rfl ?_
        refine s_iconst dX2_orderStops_81 ?_
        refine s_isub dX2_orderStops_82 ?_
        refine s_iald 10 dX2_orderStops_83 kd_271 (by decide) (fun x6 => ?_)
        refine s_iast 10 dX2_orderStops_84 kd_271 (by decide) (fun s5 => ?_)
        refine s_iinc (lv' := [(2, iv (x3 + (-1))), (0, rv B 136), (1, iv c1)]) 2 dX2_orderStops_85 rfl (by decide) rfl ?_
        refine s_goto (tgt := 39) dX2_orderStops_88 (by decide) ?_
        exact s_sub [1, 2, 0] rfl (ih (x3 + (-1)) s5)
set_option maxHeartbeats 4000000 in
set_option maxRecDepth 100000 in
theorem fX2_orderStops_L7_s {B fu : Nat} {X : Ctx} (hX : CxV B X) (k114 : Mem → PR) (hk114 : ∀ (s13 : Mem), SX2_orderStops B X (k114 s13) s13 114 [] []) : ∀ (n : Nat) (x1 : Int) (s12 : Mem), SX2_orderStops B X (fX2_orderStops_L7 fu k114 n x1 s12) s12 7 [(0, rv B 136), (1, iv x1)] [] := by
  intro n
  induction n with
  | zero => intro _ _; exact s_none
  | succ n ih =>
    intro x1 s2
    rw [fX2_orderStops_L7]
    refine s_iload_n 1 dX2_orderStops_7 rfl rfl ?_
    refine s_bipush dX2_orderStops_8 (by decide) ?_
    refine s_icmp_ge (tgt := 114) dX2_orderStops_10 (by decide) ?_ ?_
    · exact s_sub [] rfl (hk114 s2)
    · refine s_iload_n 1 dX2_orderStops_13 rfl rfl ?_
      refine s_aload_n 0 dX2_orderStops_14 rfl rfl ?_
      refine s_geti dX2_orderStops_15 ly2 fl_X2_82 kd_136 rfl ?_
      refine s_jn (fun (j1 : Mem → PR) => ∀ (s11 : Mem), SX2_orderStops B X (j1 s11) s11 108 [(0, rv B 136), (1, iv x1)] []) ?_ (fun j1 hj1 => ?_)
      · intro s3
        refine s_iinc (lv' := [(1, iv (x1 + 1)), (0, rv B 136)]) 1 dX2_orderStops_108 rfl (by decide) rfl ?_
        refine s_goto (tgt := 7) dX2_orderStops_111 (by decide) ?_
        exact s_sub [1, 0] rfl (ih (x1 + 1) s3)
      · refine s_icmp_eq (tgt := 108) dX2_orderStops_18 (by decide) ?_ ?_
        · exact hj1 s2
        · refine s_aload_n 0 dX2_orderStops_21 rfl rfl ?_
          refine s_getr (n := 133) (k' := 270) dX2_orderStops_22 ly2 fl_X2_21 kd_136 rfl rfl rfl ?_
          refine s_iload_n 1 dX2_orderStops_25 rfl rfl ?_
          refine s_aals dX2_orderStops_26 (fun p1 hp1 => ?_)
          refine s_geti dX2_orderStops_27 ly4 fl_X2_85 hp1 rfl ?_
          refine s_iconst dX2_orderStops_30 ?_
          refine s_icmp_eq (tgt := 108) dX2_orderStops_31 (by decide) ?_ ?_
          · exact hj1 s2
          · refine s_aload_n 0 dX2_orderStops_34 rfl rfl ?_
            refine s_geti dX2_orderStops_35 ly2 fl_X2_129 kd_136 rfl ?_
            refine s_lti (fun x2 => ?_)
            refine s_istore_n (lv' := [(2, iv x2), (0, rv B 136), (1, iv x1)]) dX2_orderStops_38 rfl (by decide) rfl ?_
            refine s_sub [1, 2, 0] (lv' := [(0, rv B 136), (1, iv x1), (2, iv x2)]) rfl ?_
            refine fX2_orderStops_L39_s hX x1 _ ?_ fu x2 s2
            intro x7 s8
            refine s_aload_n 0 dX2_orderStops_91 rfl rfl ?_
            refine s_getr (n := 134) (k' := 271) dX2_orderStops_92 ly2 fl_X2_29 kd_136 rfl rfl rfl ?_
            refine s_iload_n 2 dX2_orderStops_95 rfl rfl ?_
            refine s_iload_n 1 dX2_orderStops_96 rfl rfl ?_
            refine s_iast 10 dX2_orderStops_97 kd_271 (by decide) (fun s9 => ?_)
            refine s_aload_n 0 dX2_orderStops_98 rfl rfl ?_
            refine s_dup dX2_orderStops_99 rfl ?_
            refine s_geti dX2_orderStops_100 ly2 fl_X2_129 kd_136 rfl ?_
            refine s_iconst dX2_orderStops_103 ?_
            refine s_iadd dX2_orderStops_104 ?_
            refine s_puti dX2_orderStops_105 ly2 ty2 fl_X2_129 kd_136 rfl po2_11 ⟨rfl, rfl, by decide⟩ (fun s10 => ?_)
            exact s_sub [0, 1] rfl (hj1 s10)
set_option maxHeartbeats 4000000 in
set_option maxRecDepth 100000 in
theorem ctX2_orderStops (B fu : Nat) (σ : Mem) : CtV yX2_orderStops cX2_orderStops 3 none rmX2_orderStops B [rv B 136] σ (fX2_orderStops fu σ) := by
  refine ctV_intro (own := RX2) (lv := [(0, rv B 136)]) (by decide +kernel) rfl (Nat.le_of_ble_eq_true rfl) rfl (fun X hX => ?_)
  unfold fX2_orderStops
  refine s_aload_n 0 dX2_orderStops_0 rfl rfl ?_
  refine s_iconst dX2_orderStops_1 ?_
  refine s_puti dX2_orderStops_2 ly2 ty2 fl_X2_129 kd_136 rfl po2_11 ⟨rfl, rfl, by decide⟩ (fun s1 => ?_)
  refine s_iconst dX2_orderStops_5 ?_
  refine s_istore_n (lv' := [(1, iv 0), (0, rv B 136)]) dX2_orderStops_6 rfl (by decide) rfl ?_
  refine s_sub [1, 0] (lv' := [(0, rv B 136), (1, iv 0)]) rfl ?_
  refine fX2_orderStops_L7_s hX _ ?_ fu 0 s1
  intro s14
  exact s_vret hX dX2_orderStops_114
abbrev rmX2_boardsBySet : Room := { frames := 1, cells := 0, slots := 0, locals := 23 }
abbrev SX2_boardsBySet (B : Nat) (X : Ctx) := Sim cX2_boardsBySet RX2 7 rmX2_boardsBySet B X
set_option maxHeartbeats 4000000 in
set_option maxRecDepth 100000 in
theorem fX2_boardsBySet_L5_s {B fu : Nat} {X : Ctx} (hX : CxI .int B X) (p1 : Nat) (hp1 : kd p1 = 4) (k85 : Int → Mem → PR) (hk85 : ∀ (x3 : Int) (s6 : Mem), SX2_boardsBySet B X (k85 x3 s6) s6 85 [(1, rv B p1), (2, jv x3)] []) : ∀ (n : Nat) (x1 : Int) (x2 : Int) (s5 : Mem), SX2_boardsBySet B X (fX2_boardsBySet_L5 fu p1 k85 n x1 x2 s5) s5 5 [(0, rv B 136), (1, rv B p1), (2, jv x1), (4, iv x2)] [] := by
  intro n
  induction n with
  | zero => intro _ _ _; exact s_none
  | succ n ih =>
    intro x1 x2 s1
    rw [fX2_boardsBySet_L5]
    refine s_iload 3 dX2_boardsBySet_5 rfl ?_
    refine s_aload_n 1 dX2_boardsBySet_7 rfl rfl ?_
    refine s_geti dX2_boardsBySet_8 ly4 fl_X2_142 hp1 rfl ?_
    refine s_icmp_ge (tgt := 85) dX2_boardsBySet_11 (by decide) ?_ ?_
    · exact s_sub [1, 2] rfl (hk85 x1 s1)
    · refine s_aload_n 0 dX2_boardsBySet_14 rfl rfl ?_
      refine s_getd dX2_boardsBySet_15 ly2 fl_X2_13 kd_136 rfl rfl (fun p2 hp2 => ?_)
      refine s_aload_n 1 dX2_boardsBySet_18 rfl rfl ?_
      refine s_getr (n := 0) (k' := p1 + 1) dX2_boardsBySet_19 ly4 fl_X2_145 hp1 rfl rfl rfl ?_
      refine s_iload 3 dX2_boardsBySet_22 rfl ?_
      refine s_iald 12 dX2_boardsBySet_24 (kdS1 hp1) (by decide) (fun x4 => ?_)
      refine s_aald dX2_boardsBySet_25 hp2 (fun p3 hp3 => ?_)
      refine s_astore (lv' := [(5, rv B p3), (0, rv B 136), (1, rv B p1), (2, jv x1), (4, iv x2)]) dX2_boardsBySet_26 (by decide) rfl ?_
      refine s_aload 0 dX2_boardsBySet_28 rfl ?_
      refine s_aload_n 2 dX2_boardsBySet_30 rfl rfl ?_
      refine s_getr (n := 1) (k' := p1 + 2) dX2_boardsBySet_31 ly4 fl_X2_147 hp1 rfl rfl rfl ?_
      refine s_iload 4 dX2_boardsBySet_34 rfl ?_
      refine s_iald 12 dX2_boardsBySet_36 (kdS2 hp1) (by decide) (fun x5 => ?_)
      refine s_Vi (rest := []) dX2_boardsBySet_37 lk_X2_150 meX1_leftFrom (ctX1_leftFrom B fu p3 hp3 x5 s1) hp3 ⟨rfl, by decide⟩ rfl rfl ⟨rfl, rfl, by decide, by decide⟩ (Nat.le_of_ble_eq_true rfl) (fun x6 s2 => ?_)
      refine s_istore (lv' := [(6, iv x6), (5, rv B p3), (0, rv B 136), (1, rv B p1), (2, jv x1), (4, iv x2)]) dX2_boardsBySet_40 (by decide) rfl ?_
      refine s_iload 0 dX2_boardsBySet_42 rfl ?_
      refine s_iconst dX2_boardsBySet_44 ?_
      refine s_jn (fun (j1 : Int → Mem → PR) => ∀ (x7 : Int) (s4 : Mem), SX2_boardsBySet B X (j1 x7 s4) s4 79 [(0, rv B 136), (1, rv B p1), (2, jv x7), (4, iv x2)] []) ?_ (fun j1 hj1 => ?_)
      · intro x7 s3
        refine s_iinc (lv' := [(4, iv (x2 + 1)), (0, rv B 136), (1, rv B p1), (2, jv x7)]) 3 dX2_boardsBySet_79 rfl (by decide) rfl ?_
        refine s_goto (tgt := 5) dX2_boardsBySet_82 (by decide) ?_
        exact s_sub [1, 2, 3, 0] rfl (ih x7 (x2 + 1) s3)
      · refine s_icmp_eq (tgt := 79) dX2_boardsBySet_45 (by decide) ?_ ?_
        · exact s_sub [2, 3, 4, 5] rfl (hj1 x1 s2)
        · refine s_lload_n 4 dX2_boardsBySet_48 rfl rfl ?_
          refine s_aload 1 dX2_boardsBySet_49 rfl ?_
          refine s_geti dX2_boardsBySet_51 ly1 fl_X2_154 hp3 rfl ?_
          refine s_i2l dX2_boardsBySet_54 ?_
          refine s_sipush dX2_boardsBySet_55 (by decide) ?_
          refine s_aload_n 2 dX2_boardsBySet_58 rfl rfl ?_
          refine s_getr (n := 133) (k' := 270) dX2_boardsBySet_59 ly2 fl_X2_21 kd_136 rfl rfl rfl ?_
          refine s_aload 1 dX2_boardsBySet_62 rfl ?_
          refine s_getr (n := 0) (k' := p3 + 1) dX2_boardsBySet_64 ly1 fl_X2_105 hp3 rfl rfl rfl ?_
          refine s_iload 0 dX2_boardsBySet_67 rfl ?_
          refine s_iald 8 dX2_boardsBySet_69 (kdL1 hp3) (by decide) (fun x8 => ?_)
          refine s_aals dX2_boardsBySet_70 (fun p4 hp4 => ?_)
          refine s_geti dX2_boardsBySet_71 ly4 fl_X2_135 hp4 rfl ?_
          refine s_iadd dX2_boardsBySet_74 ?_
          refine s_i2l dX2_boardsBySet_75 ?_
          refine s_lmul dX2_boardsBySet_76 ?_
          refine s_ladd dX2_boardsBySet_77 ?_
          refine s_ltl (fun x9 => ?_)
          refine s_lstore_n (lv' := [(2, jv x9), (6, iv x6), (5, rv B p3), (0, rv B 136), (1, rv B p1), (4, iv x2)]) dX2_boardsBySet_78 rfl (by decide) rfl ?_
          exact s_sub [3, 4, 0, 5] rfl (hj1 x9 s2)
set_option maxHeartbeats 4000000 in
set_option maxRecDepth 100000 in
theorem ctX2_boardsBySet (B fu : Nat) (a0 : Nat) (ha0 : kd a0 = 4) (σ : Mem) : CtI yX2_boardsBySet cX2_boardsBySet 7 (some .int) rmX2_boardsBySet B [rv B 136, rv B a0] σ (fX2_boardsBySet fu a0 σ) := by
  refine ctI_intro (own := RX2) (lv := [(0, rv B 136), (1, rv B a0)]) (by decide +kernel) rfl (Nat.le_of_ble_eq_true rfl) rfl (fun X hX => ?_)
  unfold fX2_boardsBySet
  refine s_lconst (x := 0) dX2_boardsBySet_0 (by decide) ?_
  refine s_lstore_n (lv' := [(2, jv 0), (0, rv B 136), (1, rv B a0)]) dX2_boardsBySet_1 rfl (by decide) rfl ?_
  refine s_iconst dX2_boardsBySet_2 ?_
  refine s_istore (lv' := [(4, iv 0), (2, jv 0), (0, rv B 136), (1, rv B a0)]) dX2_boardsBySet_3 (by decide) rfl ?_
  refine s_sub [2, 3, 1, 0] (lv' := [(0, rv B 136), (1, rv B a0), (2, jv 0), (4, iv 0)]) rfl ?_
  refine fX2_boardsBySet_L5_s hX a0 ha0 _ ?_ fu 0 0 σ
  intro x10 s7
  refine s_lload_n 1 dX2_boardsBySet_85 rfl rfl ?_
  refine s_aload_n 0 dX2_boardsBySet_86 rfl rfl ?_
  refine s_geti dX2_boardsBySet_87 ly4 fl_X2_157 ha0 rfl ?_
  refine s_i2l dX2_boardsBySet_90 ?_
  refine s_Nl (rest := []) dX2_boardsBySet_91 nk_X2_160 meX6_parts (ctX6_parts B fu x10 (w32 (s7 a0 5)) s7) rfl rfl ⟨rfl, rfl, by decide, by decide⟩ (Nat.le_of_ble_eq_true rfl) (fun x11 s8 => ?_)
  refine s_l2i dX2_boardsBySet_94 ?_
  exact s_iret hX dX2_boardsBySet_95
abbrev rmX2_findBoards : Room := { frames := 2, cells := 0, slots := 0, locals := 49 }
abbrev SX2_findBoards (B : Nat) (X : Ctx) := Sim cX2_findBoards RX2 2 rmX2_findBoards B X
set_option maxHeartbeats 4000000 in
set_option maxRecDepth 100000 in
theorem fX2_findBoards_L24_s {B fu : Nat} {X : Ctx} (hX : CxV B X) (k63 : Mem → PR) (hk63 : ∀ (s7 : Mem), SX2_findBoards B X (k63 s7) s7 63 [] []) : ∀ (n : Nat) (x2 : Int) (s6 : Mem), SX2_findBoards B X (fX2_findBoards_L24 fu k63 n x2 s6) s6 24 [(0, rv B 136), (1, iv x2)] [] := by
  intro n
  induction n with
  | zero => intro _ _; exact s_none
  | succ n ih =>
    intro x2 s3
    rw [fX2_findBoards_L24]
    refine s_iload_n 1 dX2_findBoards_24 rfl rfl ?_
    refine s_if_lt (tgt := 63) dX2_findBoards_25 (by decide) ?_ ?_
    · exact s_sub [] rfl (hk63 s3)
    · refine s_aload_n 0 dX2_findBoards_28 rfl rfl ?_
      refine s_getr (n := 133) (k' := 270) dX2_findBoards_29 ly2 fl_X2_21 kd_136 rfl rfl rfl ?_
      refine s_aload_n 0 dX2_findBoards_32 rfl rfl ?_
      refine s_getr (n := 134) (k' := 271) dX2_findBoards_33 ly2 fl_X2_29 kd_136 rfl rfl rfl ?_
      refine s_iload_n 1 dX2_findBoards_36 rfl rfl ?_
      refine s_iald 10 dX2_findBoards_37 kd_271 (by decide) (fun x3 => ?_)
      refine s_aals dX2_findBoards_38 (fun p2 hp2 => ?_)
      refine s_aload_n 0 dX2_findBoards_39 rfl rfl ?_
      refine s_aload_n 0 dX2_findBoards_40 rfl rfl ?_
      refine s_getr (n := 133) (k' := 270) dX2_findBoards_41 ly2 fl_X2_21 kd_136 rfl rfl rfl ?_
      refine s_aload_n 0 dX2_findBoards_44 rfl rfl ?_
      refine s_getr (n := 134) (k' := 271) dX2_findBoards_45 ly2 fl_X2_29 kd_136 rfl rfl rfl ?_
      refine s_iload_n 1 dX2_findBoards_48 rfl rfl ?_
      refine s_iald 10 dX2_findBoards_49 kd_271 (by decide) (fun x4 => ?_)
      refine s_aals dX2_findBoards_50 (fun p3 hp3 => ?_)
      refine s_Vi (rest := [rv B p2]) dX2_findBoards_51 lk_X2_138 meX2_boardsBySet (ctX2_boardsBySet B fu p3 hp3 s3) kd_136 ⟨rfl, by decide⟩ rfl rfl ⟨rfl, rfl, by decide, by decide⟩ (Nat.le_of_ble_eq_true rfl) (fun x5 s4 => ?_)
      refine s_puti dX2_findBoards_54 ly4 ty4 fl_X2_135 hp2 rfl po4_7 ⟨rfl, rfl, by decide⟩ (fun s5 => ?_)
      refine s_iinc (lv' := [(1, iv (x2 + (-1))), (0, rv B 136)]) 1 dX2_findBoards_57 rfl (by decide) rfl ?_
      refine s_goto (tgt := 24) dX2_findBoards_60 (by decide) ?_
      exact s_sub [1, 0] rfl (ih (x2 + (-1)) s5)
set_option maxHeartbeats 4000000 in
set_option maxRecDepth 100000 in
theorem ctX2_findBoards (B fu : Nat) (σ : Mem) : CtV yX2_findBoards cX2_findBoards 2 none rmX2_findBoards B [rv B 136] σ (fX2_findBoards fu σ) := by
  refine ctV_intro (own := RX2) (lv := [(0, rv B 136)]) (by decide +kernel) rfl (Nat.le_of_ble_eq_true rfl) rfl (fun X hX => ?_)
  unfold fX2_findBoards
  refine s_aload_n 0 dX2_findBoards_0 rfl rfl ?_
  refine s_Vv (rest := []) dX2_findBoards_1 lk_X2_132 meX2_orderStops (ctX2_orderStops B fu σ) kd_136 ⟨rfl, by decide⟩ rfl rfl ⟨rfl, rfl, by decide, by decide⟩ (Nat.le_of_ble_eq_true rfl) (fun _ s1 => ?_)
  refine s_aload_n 0 dX2_findBoards_4 rfl rfl ?_
  refine s_getr (n := 133) (k' := 270) dX2_findBoards_5 ly2 fl_X2_21 kd_136 rfl rfl rfl ?_
  refine s_aload_n 0 dX2_findBoards_8 rfl rfl ?_
  refine s_geti dX2_findBoards_9 ly2 fl_X2_82 kd_136 rfl ?_
  refine s_aals dX2_findBoards_12 (fun p1 hp1 => ?_)
  refine s_iconst dX2_findBoards_13 ?_
  refine s_puti dX2_findBoards_14 ly4 ty4 fl_X2_135 hp1 rfl po4_7 ⟨rfl, rfl, by decide⟩ (fun s2 => ?_)
  refine s_aload_n 0 dX2_findBoards_17 rfl rfl ?_
  refine s_geti dX2_findBoards_18 ly2 fl_X2_129 kd_136 rfl ?_
  refine s_iconst dX2_findBoards_21 ?_
  refine s_isub dX2_findBoards_22 ?_
  refine s_lti (fun x1 => ?_)
  refine s_istore_n (lv' := [(1, iv x1), (0, rv B 136)]) dX2_findBoards_23 rfl (by decide) rfl ?_
  refine s_sub [1, 0] (lv' := [(0, rv B 136), (1, iv x1)]) rfl ?_
  refine fX2_findBoards_L24_s hX _ ?_ fu x1 s2
  intro s8
  exact s_vret hX dX2_findBoards_63
abbrev rmX2_carry : Room := { frames := 1, cells := 0, slots := 0, locals := 24 }
abbrev SX2_carry (B : Nat) (X : Ctx) := Sim cX2_carry RX2 5 rmX2_carry B X
set_option maxHeartbeats 4000000 in
set_option maxRecDepth 100000 in
theorem ctX2_carry (B fu : Nat) (a0 : Nat) (ha0 : kd a0 = 1) (a1 : Int) (a2 : Int) (σ : Mem) : CtV yX2_carry cX2_carry 5 none rmX2_carry B [rv B 136, rv B a0, iv a1, iv a2] σ (fX2_carry fu a0 a1 a2 σ) := by
  refine ctV_intro (own := RX2) (lv := [(0, rv B 136), (1, rv B a0), (2, iv a1), (3, iv a2)]) (by decide +kernel) rfl (Nat.le_of_ble_eq_true rfl) rfl (fun X hX => ?_)
  unfold fX2_carry
  refine s_aload_n 1 dX2_carry_0 rfl rfl ?_
  refine s_iload_n 2 dX2_carry_1 rfl rfl ?_
  refine s_Vi (rest := []) dX2_carry_2 lk_X2_150 meX1_leftFrom (ctX1_leftFrom B fu a0 ha0 a1 σ) ha0 ⟨rfl, by decide⟩ rfl rfl ⟨rfl, rfl, by decide, by decide⟩ (Nat.le_of_ble_eq_true rfl) (fun x1 s1 => ?_)
  refine s_istore (lv' := [(4, iv x1), (0, rv B 136), (1, rv B a0), (2, iv a1), (3, iv a2)]) dX2_carry_5 (by decide) rfl ?_
  refine s_iload 0 dX2_carry_7 rfl ?_
  refine s_iconst dX2_carry_9 ?_
  refine s_jn (fun (j1 : Mem → PR) => ∀ (s5 : Mem), SX2_carry B X (j1 s5) s5 42 [] []) ?_ (fun j1 hj1 => ?_)
  · intro s2
    exact s_vret hX dX2_carry_42
  · refine s_icmp_eq (tgt := 42) dX2_carry_10 (by decide) ?_ ?_
    · exact s_sub [] rfl (hj1 s1)
    · refine s_aload_n 2 dX2_carry_13 rfl rfl ?_
      refine s_iload_n 3 dX2_carry_14 rfl rfl ?_
      refine s_iload 0 dX2_carry_15 rfl ?_
      refine s_iload_n 4 dX2_carry_17 rfl rfl ?_
      refine s_Vv (rest := []) dX2_carry_18 lk_X2_188 meX1_carry (ctX1_carry B fu a0 ha0 a1 x1 a2 s1) ha0 ⟨rfl, by decide⟩ rfl rfl ⟨rfl, rfl, by decide, by decide⟩ (Nat.le_of_ble_eq_true rfl) (fun _ s3 => ?_)
      refine s_aload_n 1 dX2_carry_21 rfl rfl ?_
      refine s_getr (n := 133) (k' := 270) dX2_carry_22 ly2 fl_X2_21 kd_136 rfl rfl rfl ?_
      refine s_aload_n 2 dX2_carry_25 rfl rfl ?_
      refine s_getr (n := 0) (k' := a0 + 1) dX2_carry_26 ly1 fl_X2_105 ha0 rfl rfl rfl ?_
      refine s_iload 0 dX2_carry_29 rfl ?_
      refine s_iald 8 dX2_carry_31 (kdL1 ha0) (by decide) (fun x2 => ?_)
      refine s_aals dX2_carry_32 (fun p1 hp1 => ?_)
      refine s_dup dX2_carry_33 rfl ?_
      refine s_geti dX2_carry_34 ly4 fl_X2_173 hp1 rfl ?_
      refine s_iload_n 4 dX2_carry_37 rfl rfl ?_
      refine s_iadd dX2_carry_38 ?_
      refine s_puti dX2_carry_39 ly4 ty4 fl_X2_173 hp1 rfl po4_6 ⟨rfl, rfl, by decide⟩ (fun s4 => ?_)
      exact s_sub [] rfl (hj1 s4)
abbrev rmX2_shareOf : Room := { frames := 1, cells := 0, slots := 0, locals := 23 }
abbrev SX2_shareOf (B : Nat) (X : Ctx) := Sim cX2_shareOf RX2 4 rmX2_shareOf B X
set_option maxHeartbeats 4000000 in
set_option maxRecDepth 100000 in
theorem ctX2_shareOf (B fu : Nat) (a0 : Nat) (ha0 : kd a0 = 4) (a1 : Int) (a2 : Int) (σ : Mem) : CtI yX2_shareOf cX2_shareOf 4 (some .int) rmX2_shareOf B [rv B 136, rv B a0, iv a1, iv a2] σ (fX2_shareOf fu a0 a1 a2 σ) := by
  refine ctI_intro (own := RX2) (lv := [(0, rv B 136), (1, rv B a0), (2, iv a1), (3, iv a2)]) (by decide +kernel) rfl (Nat.le_of_ble_eq_true rfl) rfl (fun X hX => ?_)
  unfold fX2_shareOf
  refine s_iload_n 3 dX2_shareOf_0 rfl rfl ?_
  refine s_i2l dX2_shareOf_1 ?_
  refine s_aload_n 0 dX2_shareOf_2 rfl rfl ?_
  refine s_getd dX2_shareOf_3 ly2 fl_X2_13 kd_136 rfl rfl (fun p1 hp1 => ?_)
  refine s_aload_n 1 dX2_shareOf_6 rfl rfl ?_
  refine s_getr (n := 0) (k' := a0 + 1) dX2_shareOf_7 ly4 fl_X2_145 ha0 rfl rfl rfl ?_
  refine s_iload_n 2 dX2_shareOf_10 rfl rfl ?_
  refine s_iald 12 dX2_shareOf_11 (kdS1 ha0) (by decide) (fun x1 => ?_)
  refine s_aald dX2_shareOf_12 hp1 (fun p2 hp2 => ?_)
  refine s_geti dX2_shareOf_13 ly1 fl_X2_154 hp2 rfl ?_
  refine s_i2l dX2_shareOf_16 ?_
  refine s_lmul dX2_shareOf_17 ?_
  refine s_aload_n 1 dX2_shareOf_18 rfl rfl ?_
  refine s_geti dX2_shareOf_19 ly4 fl_X2_157 ha0 rfl ?_
  refine s_i2l dX2_shareOf_22 ?_
  refine s_Nl (rest := []) dX2_shareOf_23 nk_X2_160 meX6_parts (ctX6_parts B fu ((w32 a2) * (w32 (σ p2 0))) (w32 (σ a0 5)) σ) rfl rfl ⟨rfl, rfl, by decide, by decide⟩ (Nat.le_of_ble_eq_true rfl) (fun x2 s1 => ?_)
  refine s_l2i dX2_shareOf_26 ?_
  exact s_iret hX dX2_shareOf_27
abbrev rmX2_boardAll : Room := { frames := 2, cells := 0, slots := 0, locals := 48 }
abbrev SX2_boardAll (B : Nat) (X : Ctx) := Sim cX2_boardAll RX2 6 rmX2_boardAll B X
set_option maxHeartbeats 4000000 in
set_option maxRecDepth 100000 in
theorem fX2_boardAll_L15_s {B fu : Nat} {X : Ctx} (hX : CxV B X) (p1 : Nat) (hp1 : kd p1 = 4) (c1 : Int) (k41 : Int → Mem → PR) (hk41 : ∀ (x4 : Int) (s4 : Mem), SX2_boardAll B X (k41 x4 s4) s4 41 [(0, rv B 136), (1, rv B p1), (2, iv c1), (3, iv x4)] []) : ∀ (n : Nat) (x2 : Int) (x3 : Int) (s3 : Mem), SX2_boardAll B X (fX2_boardAll_L15 fu p1 c1 k41 n x2 x3 s3) s3 15 [(0, rv B 136), (1, rv B p1), (2, iv c1), (3, iv x2), (4, iv x3)] [] := by
  intro n
  induction n with
  | zero => intro _ _ _; exact s_none
  | succ n ih =>
    intro x2 x3 s1
    rw [fX2_boardAll_L15]
    refine s_iload 4 dX2_boardAll_15 rfl ?_
    refine s_aload_n 1 dX2_boardAll_17 rfl rfl ?_
    refine s_geti dX2_boardAll_18 ly4 fl_X2_142 hp1 rfl ?_
    refine s_icmp_ge (tgt := 41) dX2_boardAll_21 (by decide) ?_ ?_
    · exact s_sub [0, 1, 2, 3] rfl (hk41 x2 s1)
    · refine s_iload_n 3 dX2_boardAll_24 rfl rfl ?_
      refine s_aload_n 0 dX2_boardAll_25 rfl rfl ?_
      refine s_aload_n 1 dX2_boardAll_26 rfl rfl ?_
      refine s_iload 4 dX2_boardAll_27 rfl ?_
      refine s_iload_n 2 dX2_boardAll_29 rfl rfl ?_
      refine s_Vi (rest := [iv x2]) dX2_boardAll_30 lk_X2_180 meX2_shareOf (ctX2_shareOf B fu p1 hp1 x3 c1 s1) kd_136 ⟨rfl, by decide⟩ rfl rfl ⟨rfl, rfl, by decide, by decide⟩ (Nat.le_of_ble_eq_true rfl) (fun x5 s2 => ?_)
      refine s_isub dX2_boardAll_33 ?_
      refine s_lti (fun x6 => ?_)
      refine s_istore_n (lv' := [(3, iv x6), (0, rv B 136), (1, rv B p1), (2, iv c1), (4, iv x3)]) dX2_boardAll_34 rfl (by decide) rfl ?_
      refine s_iinc (lv' := [(4, iv (x3 + 1)), (3, iv x6), (0, rv B 136), (1, rv B p1), (2, iv c1)]) 4 dX2_boardAll_35 rfl (by decide) rfl ?_
      refine s_goto (tgt := 15) dX2_boardAll_38 (by decide) ?_
      exact s_sub [2, 3, 4, 1, 0] rfl (ih x6 (x3 + 1) s2)
set_option maxHeartbeats 4000000 in
set_option maxRecDepth 100000 in
theorem fX2_boardAll_L44_s {B fu : Nat} {X : Ctx} (hX : CxV B X) (p2 : Nat) (hp2 : kd p2 = 4) (c2 : Int) (c3 : Int) (k106 : Mem → PR) (hk106 : ∀ (s12 : Mem), SX2_boardAll B X (k106 s12) s12 106 [] []) : ∀ (n : Nat) (x8 : Int) (s11 : Mem), SX2_boardAll B X (fX2_boardAll_L44 fu p2 c2 c3 k106 n x8 s11) s11 44 [(0, rv B 136), (1, rv B p2), (2, iv c2), (3, iv c3), (4, iv x8)] [] := by
  intro n
  induction n with
  | zero => intro _ _; exact s_none
  | succ n ih =>
    intro x8 s6
    rw [fX2_boardAll_L44]
    refine s_iload 4 dX2_boardAll_44 rfl ?_
    refine s_aload_n 1 dX2_boardAll_46 rfl rfl ?_
    refine s_geti dX2_boardAll_47 ly4 fl_X2_142 hp2 rfl ?_
    refine s_icmp_ge (tgt := 106) dX2_boardAll_50 (by decide) ?_ ?_
    · exact s_sub [] rfl (hk106 s6)
    · refine s_aload_n 0 dX2_boardAll_53 rfl rfl ?_
      refine s_aload_n 1 dX2_boardAll_54 rfl rfl ?_
      refine s_iload 4 dX2_boardAll_55 rfl ?_
      refine s_iload_n 2 dX2_boardAll_57 rfl rfl ?_
      refine s_Vi (rest := []) dX2_boardAll_58 lk_X2_180 meX2_shareOf (ctX2_shareOf B fu p2 hp2 x8 c2 s6) kd_136 ⟨rfl, by decide⟩ rfl rfl ⟨rfl, rfl, by decide, by decide⟩ (Nat.le_of_ble_eq_true rfl) (fun x9 s7 => ?_)
      refine s_istore (lv' := [(5, iv x9), (0, rv B 136), (1, rv B p2), (2, iv c2), (3, iv c3), (4, iv x8)]) dX2_boardAll_61 (by decide) rfl ?_
      refine s_aload_n 1 dX2_boardAll_63 rfl rfl ?_
      refine s_aload_n 1 dX2_boardAll_64 rfl rfl ?_
      refine s_getd dX2_boardAll_65 ly2 fl_X2_13 kd_136 rfl rfl (fun p3 hp3 => ?_)
      refine s_aload_n 2 dX2_boardAll_68 rfl rfl ?_
      refine s_getr (n := 0) (k' := p2 + 1) dX2_boardAll_69 ly4 fl_X2_145 hp2 rfl rfl rfl ?_
      refine s_iload 5 dX2_boardAll_72 rfl ?_
      refine s_iald 12 dX2_boardAll_74 (kdS1 hp2) (by decide) (fun x10 => ?_)
      refine s_aald dX2_boardAll_75 hp3 (fun p4 hp4 => ?_)
      refine s_aload_n 2 dX2_boardAll_76 rfl rfl ?_
      refine s_getr (n := 1) (k' := p2 + 2) dX2_boardAll_77 ly4 fl_X2_147 hp2 rfl rfl rfl ?_
      refine s_iload 5 dX2_boardAll_80 rfl ?_
      refine s_iald 12 dX2_boardAll_82 (kdS2 hp2) (by decide) (fun x11 => ?_)
      refine s_iload 5 dX2_boardAll_83 rfl ?_
      refine s_jn (fun (j1 : Int → Mem → PR) => ∀ (x12 : Int) (s10 : Mem), SX2_boardAll B X (j1 x12 s10) s10 97 [(0, rv B 136), (1, rv B p2), (2, iv c2), (3, iv c3), (4, iv x8)] [iv x12, iv x11, rv B p4, rv B 136]) ?_ (fun j1 hj1 => ?_)
      · intro x12 s8
        refine s_Vv (rest := []) dX2_boardAll_97 lk_X2_184 meX2_carry (ctX2_carry B fu p4 hp4 x11 x12 s8) kd_136 ⟨rfl, by decide⟩ rfl rfl ⟨rfl, rfl, by decide, by decide⟩ (Nat.le_of_ble_eq_true rfl) (fun _ s9 => ?_)
        refine s_iinc (lv' := [(4, iv (x8 + 1)), (0, rv B 136), (1, rv B p2), (2, iv c2), (3, iv c3)]) 4 dX2_boardAll_100 rfl (by decide) rfl ?_
        refine s_goto (tgt := 44) dX2_boardAll_103 (by decide) ?_
        exact s_sub [1, 2, 3, 4, 0] rfl (ih (x8 + 1) s9)
      · refine s_if_ne (tgt := 95) dX2_boardAll_85 (by decide) ?_ ?_
        · refine s_iload 0 dX2_boardAll_95 rfl ?_
          exact s_sub [1, 2, 3, 4, 5] rfl (hj1 x9 s7)
        · refine s_iload 0 dX2_boardAll_88 rfl ?_
          refine s_iload_n 4 dX2_boardAll_90 rfl rfl ?_
          refine s_iadd dX2_boardAll_91 ?_
          refine s_goto (tgt := 97) dX2_boardAll_92 (by decide) ?_
          exact s_sub [1, 2, 3, 4, 5] rfl (hj1 (x9 + c3) s7)
set_option maxHeartbeats 4000000 in
set_option maxRecDepth 100000 in
theorem ctX2_boardAll (B fu : Nat) (a0 : Nat) (ha0 : kd a0 = 4) (σ : Mem) : CtV yX2_boardAll cX2_boardAll 6 none rmX2_boardAll B [rv B 136, rv B a0] σ (fX2_boardAll fu a0 σ) := by
  refine ctV_intro (own := RX2) (lv := [(0, rv B 136), (1, rv B a0)]) (by decide +kernel) rfl (Nat.le_of_ble_eq_true rfl) rfl (fun X hX => ?_)
  unfold fX2_boardAll
  refine s_aload_n 1 dX2_boardAll_0 rfl rfl ?_
  refine s_geti dX2_boardAll_1 ly4 fl_X2_74 ha0 rfl ?_
  refine s_aload_n 1 dX2_boardAll_4 rfl rfl ?_
  refine s_geti dX2_boardAll_5 ly4 fl_X2_173 ha0 rfl ?_
  refine s_iadd dX2_boardAll_8 ?_
  refine s_lti (fun x1 => ?_)
  refine s_istore_n (lv' := [(2, iv x1), (0, rv B 136), (1, rv B a0)]) dX2_boardAll_9 rfl (by decide) rfl ?_
  refine s_iload_n 0 dX2_boardAll_10 rfl rfl ?_
  refine s_istore_n (lv' := [(3, iv x1), (2, iv x1), (0, rv B 136), (1, rv B a0)]) dX2_boardAll_11 rfl (by decide) rfl ?_
  refine s_iconst dX2_boardAll_12 ?_
  refine s_istore (lv' := [(4, iv 0), (3, iv x1), (2, iv x1), (0, rv B 136), (1, rv B a0)]) dX2_boardAll_13 (by decide) rfl ?_
  refine s_sub [3, 4, 2, 1, 0] (lv' := [(0, rv B 136), (1, rv B a0), (2, iv x1), (3, iv x1), (4, iv 0)]) rfl ?_
  refine fX2_boardAll_L15_s hX a0 ha0 x1 _ ?_ fu x1 0 σ
  intro x7 s5
  refine s_iconst dX2_boardAll_41 ?_
  refine s_istore (lv' := [(4, iv 0), (0, rv B 136), (1, rv B a0), (2, iv x1), (3, iv x7)]) dX2_boardAll_42 (by decide) rfl ?_
  refine s_sub [1, 2, 3, 4, 0] (lv' := [(0, rv B 136), (1, rv B a0), (2, iv x1), (3, iv x7), (4, iv 0)]) rfl ?_
  refine fX2_boardAll_L44_s hX a0 ha0 x1 x7 _ ?_ fu 0 s5
  intro s13
  exact s_vret hX dX2_boardAll_106
abbrev rmX2_spreadLoads : Room := { frames := 3, cells := 0, slots := 0, locals := 73 }
abbrev SX2_spreadLoads (B : Nat) (X : Ctx) := Sim cX2_spreadLoads RX2 2 rmX2_spreadLoads B X
set_option maxHeartbeats 4000000 in
set_option maxRecDepth 100000 in
theorem fX2_spreadLoads_L2_s {B fu : Nat} {X : Ctx} (hX : CxV B X) (k25 : Mem → PR) (hk25 : ∀ (s4 : Mem), SX2_spreadLoads B X (k25 s4) s4 25 [(0, rv B 136)] []) : ∀ (n : Nat) (x1 : Int) (s3 : Mem), SX2_spreadLoads B X (fX2_spreadLoads_L2 fu k25 n x1 s3) s3 2 [(0, rv B 136), (1, iv x1)] [] := by
  intro n
  induction n with
  | zero => intro _ _; exact s_none
  | succ n ih =>
    intro x1 s1
    rw [fX2_spreadLoads_L2]
    refine s_iload_n 1 dX2_spreadLoads_2 rfl rfl ?_
    refine s_aload_n 0 dX2_spreadLoads_3 rfl rfl ?_
    refine s_geti dX2_spreadLoads_4 ly2 fl_X2_41 kd_136 rfl ?_
    refine s_icmp_ge (tgt := 25) dX2_spreadLoads_7 (by decide) ?_ ?_
    · exact s_sub [0] rfl (hk25 s1)
    · refine s_aload_n 0 dX2_spreadLoads_10 rfl rfl ?_
      refine s_getd dX2_spreadLoads_11 ly2 fl_X2_13 kd_136 rfl rfl (fun p1 hp1 => ?_)
      refine s_iload_n 1 dX2_spreadLoads_14 rfl rfl ?_
      refine s_aald dX2_spreadLoads_15 hp1 (fun p2 hp2 => ?_)
      refine s_Vv (rest := []) dX2_spreadLoads_16 lk_X2_170 meX1_forgetLoads (ctX1_forgetLoads B fu p2 hp2 s1) hp2 ⟨rfl, by decide⟩ rfl rfl ⟨rfl, rfl, by decide, by decide⟩ (Nat.le_of_ble_eq_true rfl) (fun _ s2 => ?_)
      refine s_iinc (lv' := [(1, iv (x1 + 1)), (0, rv B 136)]) 1 dX2_spreadLoads_19 rfl (by decide) rfl ?_
      refine s_goto (tgt := 2) dX2_spreadLoads_22 (by decide) ?_
      exact s_sub [1, 0] rfl (ih (x1 + 1) s2)
set_option maxHeartbeats 4000000 in
set_option maxRecDepth 100000 in
theorem fX2_spreadLoads_L27_s {B fu : Nat} {X : Ctx} (hX : CxV B X) (k49 : Mem → PR) (hk49 : ∀ (s9 : Mem), SX2_spreadLoads B X (k49 s9) s9 49 [(0, rv B 136)] []) : ∀ (n : Nat) (x2 : Int) (s8 : Mem), SX2_spreadLoads B X (fX2_spreadLoads_L27 fu k49 n x2 s8) s8 27 [(0, rv B 136), (1, iv x2)] [] := by
  intro n
  induction n with
  | zero => intro _ _; exact s_none
  | succ n ih =>
    intro x2 s6
    rw [fX2_spreadLoads_L27]
    refine s_iload_n 1 dX2_spreadLoads_27 rfl rfl ?_
    refine s_bipush dX2_spreadLoads_28 (by decide) ?_
    refine s_icmp_ge (tgt := 49) dX2_spreadLoads_30 (by decide) ?_ ?_
    · exact s_sub [0] rfl (hk49 s6)
    · refine s_aload_n 0 dX2_spreadLoads_33 rfl rfl ?_
      refine s_getr (n := 133) (k' := 270) dX2_spreadLoads_34 ly2 fl_X2_21 kd_136 rfl rfl rfl ?_
      refine s_iload_n 1 dX2_spreadLoads_37 rfl rfl ?_
      refine s_aals dX2_spreadLoads_38 (fun p3 hp3 => ?_)
      refine s_iconst dX2_spreadLoads_39 ?_
      refine s_puti dX2_spreadLoads_40 ly4 ty4 fl_X2_173 hp3 rfl po4_6 ⟨rfl, rfl, by decide⟩ (fun s7 => ?_)
      refine s_iinc (lv' := [(1, iv (x2 + 1)), (0, rv B 136)]) 1 dX2_spreadLoads_43 rfl (by decide) rfl ?_
      refine s_goto (tgt := 27) dX2_spreadLoads_46 (by decide) ?_
      exact s_sub [1, 0] rfl (ih (x2 + 1) s7)
set_option maxHeartbeats 4000000 in
set_option maxRecDepth 100000 in
theorem fX2_spreadLoads_L55_s {B fu : Nat} {X : Ctx} (hX : CxV B X) (k84 : Mem → PR) (hk84 : ∀ (s15 : Mem), SX2_spreadLoads B X (k84 s15) s15 84 [] []) : ∀ (n : Nat) (x3 : Int) (s14 : Mem), SX2_spreadLoads B X (fX2_spreadLoads_L55 fu k84 n x3 s14) s14 55 [(0, rv B 136), (1, iv x3)] [] := by
  intro n
  induction n with
  | zero => intro _ _; exact s_none
  | succ n ih =>
    intro x3 s12
    rw [fX2_spreadLoads_L55]
    refine s_iload_n 1 dX2_spreadLoads_55 rfl rfl ?_
    refine s_aload_n 0 dX2_spreadLoads_56 rfl rfl ?_
    refine s_geti dX2_spreadLoads_57 ly2 fl_X2_129 kd_136 rfl ?_
    refine s_icmp_ge (tgt := 84) dX2_spreadLoads_60 (by decide) ?_ ?_
    · exact s_sub [] rfl (hk84 s12)
    · refine s_aload_n 0 dX2_spreadLoads_63 rfl rfl ?_
      refine s_aload_n 0 dX2_spreadLoads_64 rfl rfl ?_
      refine s_getr (n := 133) (k' := 270) dX2_spreadLoads_65 ly2 fl_X2_21 kd_136 rfl rfl rfl ?_
      refine s_aload_n 0 dX2_spreadLoads_68 rfl rfl ?_
      refine s_getr (n := 134) (k' := 271) dX2_spreadLoads_69 ly2 fl_X2_29 kd_136 rfl rfl rfl ?_
      refine s_iload_n 1 dX2_spreadLoads_72 rfl rfl ?_
      refine s_iald 10 dX2_spreadLoads_73 kd_271 (by decide) (fun x4 => ?_)
      refine s_aals dX2_spreadLoads_74 (fun p4 hp4 => ?_)
      refine s_Vv (rest := []) dX2_spreadLoads_75 lk_X2_176 meX2_boardAll (ctX2_boardAll B fu p4 hp4 s12) kd_136 ⟨rfl, by decide⟩ rfl rfl ⟨rfl, rfl, by decide, by decide⟩ (Nat.le_of_ble_eq_true rfl) (fun _ s13 => ?_)
      refine s_iinc (lv' := [(1, iv (x3 + 1)), (0, rv B 136)]) 1 dX2_spreadLoads_78 rfl (by decide) rfl ?_
      refine s_goto (tgt := 55) dX2_spreadLoads_81 (by decide) ?_
      exact s_sub [1, 0] rfl (ih (x3 + 1) s13)
set_option maxHeartbeats 4000000 in
set_option maxRecDepth 100000 in
theorem ctX2_spreadLoads (B fu : Nat) (σ : Mem) : CtV yX2_spreadLoads cX2_spreadLoads 2 none rmX2_spreadLoads B [rv B 136] σ (fX2_spreadLoads fu σ) := by
  refine ctV_intro (own := RX2) (lv := [(0, rv B 136)]) (by decide +kernel) rfl (Nat.le_of_ble_eq_true rfl) rfl (fun X hX => ?_)
  unfold fX2_spreadLoads
  refine s_iconst dX2_spreadLoads_0 ?_
  refine s_istore_n (lv' := [(1, iv 0), (0, rv B 136)]) dX2_spreadLoads_1 rfl (by decide) rfl ?_
  refine s_sub [1, 0] (lv' := [(0, rv B 136), (1, iv 0)]) rfl ?_
  refine fX2_spreadLoads_L2_s hX _ ?_ fu 0 σ
  intro s5
  refine s_iconst dX2_spreadLoads_25 ?_
  refine s_istore_n (lv' := [(1, iv 0), (0, rv B 136)]) dX2_spreadLoads_26 rfl (by decide) rfl ?_
  refine s_sub [1, 0] (lv' := [(0, rv B 136), (1, iv 0)]) rfl ?_
  refine fX2_spreadLoads_L27_s hX _ ?_ fu 0 s5
  intro s10
  refine s_aload_n 0 dX2_spreadLoads_49 rfl rfl ?_
  refine s_Vv (rest := []) dX2_spreadLoads_50 lk_X2_132 meX2_orderStops (ctX2_orderStops B fu s10) kd_136 ⟨rfl, by decide⟩ rfl rfl ⟨rfl, rfl, by decide, by decide⟩ (Nat.le_of_ble_eq_true rfl) (fun _ s11 => ?_)
  refine s_iconst dX2_spreadLoads_53 ?_
  refine s_istore_n (lv' := [(1, iv 0), (0, rv B 136)]) dX2_spreadLoads_54 rfl (by decide) rfl ?_
  refine s_sub [1, 0] (lv' := [(0, rv B 136), (1, iv 0)]) rfl ?_
  refine fX2_spreadLoads_L55_s hX _ ?_ fu 0 s11
  intro s16
  exact s_vret hX dX2_spreadLoads_84
abbrev rmX2_findLoads : Room := { frames := 4, cells := 0, slots := 0, locals := 94 }
abbrev SX2_findLoads (B : Nat) (X : Ctx) := Sim cX2_findLoads RX2 1 rmX2_findLoads B X
set_option maxHeartbeats 4000000 in
set_option maxRecDepth 100000 in
theorem ctX2_findLoads (B fu : Nat) (σ : Mem) : CtV yX2_findLoads cX2_findLoads 1 none rmX2_findLoads B [rv B 136] σ (fX2_findLoads fu σ) := by
  refine ctV_intro (own := RX2) (lv := [(0, rv B 136)]) (by decide +kernel) rfl (Nat.le_of_ble_eq_true rfl) rfl (fun X hX => ?_)
  unfold fX2_findLoads
  refine s_aload_n 0 dX2_findLoads_0 rfl rfl ?_
  refine s_Vv (rest := []) dX2_findLoads_1 lk_X2_164 meX2_findCosts (ctX2_findCosts B fu σ) kd_136 ⟨rfl, by decide⟩ rfl rfl ⟨rfl, rfl, by decide, by decide⟩ (Nat.le_of_ble_eq_true rfl) (fun _ s1 => ?_)
  refine s_aload_n 0 dX2_findLoads_4 rfl rfl ?_
  refine s_Vv (rest := []) dX2_findLoads_5 lk_X2_167 meX2_spreadLoads (ctX2_spreadLoads B fu s1) kd_136 ⟨rfl, by decide⟩ rfl rfl ⟨rfl, rfl, by decide, by decide⟩ (Nat.le_of_ble_eq_true rfl) (fun _ s2 => ?_)
  exact s_vret hX dX2_findLoads_8
abbrev rmX2_spreadLoadsOf : Room := { frames := 4, cells := 0, slots := 0, locals := 94 }
abbrev SX2_spreadLoadsOf (B : Nat) (X : Ctx) := Sim cX2_spreadLoadsOf RX2 4 rmX2_spreadLoadsOf B X
set_option maxHeartbeats 4000000 in
set_option maxRecDepth 100000 in
theorem fX2_spreadLoadsOf_L2_s {B fu : Nat} {X : Ctx} (hX : CxV B X) (c1 : Int) (c2 : Int) (k51 : Mem → PR) (hk51 : ∀ (s7 : Mem), SX2_spreadLoadsOf B X (k51 s7) s7 51 [(0, rv B 136)] []) : ∀ (n : Nat) (x1 : Int) (s6 : Mem), SX2_spreadLoadsOf B X (fX2_spreadLoadsOf_L2 fu c1 c2 k51 n x1 s6) s6 2 [(0, rv B 136), (1, iv c1), (2, iv c2), (3, iv x1)] [] := by
  intro n
  induction n with
  | zero => intro _ _; exact s_none
  | succ n ih =>
    intro x1 s1
    rw [fX2_spreadLoadsOf_L2]
    refine s_iload_n 3 dX2_spreadLoadsOf_2 rfl rfl ?_
    refine s_bipush dX2_spreadLoadsOf_3 (by decide) ?_
    refine s_icmp_ge (tgt := 51) dX2_spreadLoadsOf_5 (by decide) ?_ ?_
    · exact s_sub [0] rfl (hk51 s1)
    · refine s_aload_n 0 dX2_spreadLoadsOf_8 rfl rfl ?_
      refine s_getr (n := 133) (k' := 270) dX2_spreadLoadsOf_9 ly2 fl_X2_21 kd_136 rfl rfl rfl ?_
      refine s_iload_n 3 dX2_spreadLoadsOf_12 rfl rfl ?_
      refine s_aals dX2_spreadLoadsOf_13 (fun p1 hp1 => ?_)
      refine s_aload_n 0 dX2_spreadLoadsOf_14 rfl rfl ?_
      refine s_getr (n := 133) (k' := 270) dX2_spreadLoadsOf_15 ly2 fl_X2_21 kd_136 rfl rfl rfl ?_
      refine s_iload_n 3 dX2_spreadLoadsOf_18 rfl rfl ?_
      refine s_aals dX2_spreadLoadsOf_19 (fun p2 hp2 => ?_)
      refine s_geti dX2_spreadLoadsOf_20 ly4 fl_X2_74 hp2 rfl ?_
      refine s_puti dX2_spreadLoadsOf_23 ly4 ty4 fl_X2_190 hp1 rfl po4_8 ⟨rfl, rfl, by decide⟩ (fun s2 => ?_)
      refine s_aload_n 0 dX2_spreadLoadsOf_26 rfl rfl ?_
      refine s_getr (n := 133) (k' := 270) dX2_spreadLoadsOf_27 ly2 fl_X2_21 kd_136 rfl rfl rfl ?_
      refine s_iload_n 3 dX2_spreadLoadsOf_30 rfl rfl ?_
      refine s_aals dX2_spreadLoadsOf_31 (fun p3 hp3 => ?_)
      refine s_iload_n 3 dX2_spreadLoadsOf_32 rfl rfl ?_
      refine s_iload_n 1 dX2_spreadLoadsOf_33 rfl rfl ?_
      refine s_jn (fun (j1 : Int → Mem → PR) => ∀ (x2 : Int) (s5 : Mem), SX2_spreadLoadsOf B X (j1 x2 s5) s5 42 [(0, rv B 136), (1, iv c1), (2, iv c2), (3, iv x1)] [iv x2, rv B p3]) ?_ (fun j1 hj1 => ?_)
      · intro x2 s3
        refine s_puti dX2_spreadLoadsOf_42 ly4 ty4 fl_X2_74 hp3 rfl po4_0 ⟨rfl, rfl, by decide⟩ (fun s4 => ?_)
        refine s_iinc (lv' := [(3, iv (x1 + 1)), (0, rv B 136), (1, iv c1), (2, iv c2)]) 3 dX2_spreadLoadsOf_45 rfl (by decide) rfl ?_
        refine s_goto (tgt := 2) dX2_spreadLoadsOf_48 (by decide) ?_
        exact s_sub [1, 2, 3, 0] rfl (ih (x1 + 1) s4)
      · refine s_icmp_ne (tgt := 41) dX2_spreadLoadsOf_34 (by decide) ?_ ?_
        · refine s_iconst dX2_spreadLoadsOf_41 ?_
          exact hj1 0 s2
        · refine s_iload_n 2 dX2_spreadLoadsOf_37 rfl rfl ?_
          refine s_goto (tgt := 42) dX2_spreadLoadsOf_38 (by decide) ?_
          exact hj1 c2 s2
set_option maxHeartbeats 4000000 in
set_option maxRecDepth 100000 in
theorem fX2_spreadLoadsOf_L57_s {B fu : Nat} {X : Ctx} (hX : CxV B X) (k87 : Mem → PR) (hk87 : ∀ (s13 : Mem), SX2_spreadLoadsOf B X (k87 s13) s13 87 [] []) : ∀ (n : Nat) (x3 : Int) (s12 : Mem), SX2_spreadLoadsOf B X (fX2_spreadLoadsOf_L57 fu k87 n x3 s12) s12 57 [(0, rv B 136), (3, iv x3)] [] := by
  intro n
  induction n with
  | zero => intro _ _; exact s_none
  | succ n ih =>
    intro x3 s10
    rw [fX2_spreadLoadsOf_L57]
    refine s_iload_n 1 dX2_spreadLoadsOf_57 rfl rfl ?_
    refine s_bipush dX2_spreadLoadsOf_58 (by decide) ?_
    refine s_icmp_ge (tgt := 87) dX2_spreadLoadsOf_60 (by decide) ?_ ?_
    · exact s_sub [] rfl (hk87 s10)
    · refine s_aload_n 0 dX2_spreadLoadsOf_63 rfl rfl ?_
      refine s_getr (n := 133) (k' := 270) dX2_spreadLoadsOf_64 ly2 fl_X2_21 kd_136 rfl rfl rfl ?_
      refine s_iload_n 1 dX2_spreadLoadsOf_67 rfl rfl ?_
      refine s_aals dX2_spreadLoadsOf_68 (fun p4 hp4 => ?_)
      refine s_aload_n 0 dX2_spreadLoadsOf_69 rfl rfl ?_
      refine s_getr (n := 133) (k' := 270) dX2_spreadLoadsOf_70 ly2 fl_X2_21 kd_136 rfl rfl rfl ?_
      refine s_iload_n 1 dX2_spreadLoadsOf_73 rfl rfl ?_
      refine s_aals dX2_spreadLoadsOf_74 (fun p5 hp5 => ?_)
      refine s_geti dX2_spreadLoadsOf_75 ly4 fl_X2_190 hp5 rfl ?_
      refine s_puti dX2_spreadLoadsOf_78 ly4 ty4 fl_X2_74 hp4 rfl po4_0 ⟨rfl, rfl, by decide⟩ (fun s11 => ?_)
      refine s_iinc (lv' := [(3, iv (x3 + 1)), (0, rv B 136)]) 1 dX2_spreadLoadsOf_81 rfl (by decide) rfl ?_
      refine s_goto (tgt := 57) dX2_spreadLoadsOf_84 (by decide) ?_
      exact s_sub [1, 0] rfl (ih (x3 + 1) s11)
set_option maxHeartbeats 4000000 in
set_option maxRecDepth 100000 in
theorem ctX2_spreadLoadsOf (B fu : Nat) (a0 : Int) (a1 : Int) (σ : Mem) : CtV yX2_spreadLoadsOf cX2_spreadLoadsOf 4 none rmX2_spreadLoadsOf B [rv B 136, iv a0, iv a1] σ (fX2_spreadLoadsOf fu a0 a1 σ) := by
  refine ctV_intro (own := RX2) (lv := [(0, rv B 136), (1, iv a0), (2, iv a1)]) (by decide +kernel) rfl (Nat.le_of_ble_eq_true rfl) rfl (fun X hX => ?_)
  unfold fX2_spreadLoadsOf
  refine s_iconst dX2_spreadLoadsOf_0 ?_
  refine s_istore_n (lv' := [(3, iv 0), (0, rv B 136), (1, iv a0), (2, iv a1)]) dX2_spreadLoadsOf_1 rfl (by decide) rfl ?_
  refine s_sub [1, 2, 3, 0] (lv' := [(0, rv B 136), (1, iv a0), (2, iv a1), (3, iv 0)]) rfl ?_
  refine fX2_spreadLoadsOf_L2_s hX a0 a1 _ ?_ fu 0 σ
  intro s8
  refine s_aload_n 0 dX2_spreadLoadsOf_51 rfl rfl ?_
  refine s_Vv (rest := []) dX2_spreadLoadsOf_52 lk_X2_167 meX2_spreadLoads (ctX2_spreadLoads B fu s8) kd_136 ⟨rfl, by decide⟩ rfl rfl ⟨rfl, rfl, by decide, by decide⟩ (Nat.le_of_ble_eq_true rfl) (fun _ s9 => ?_)
  refine s_iconst dX2_spreadLoadsOf_55 ?_
  refine s_istore_n (lv' := [(3, iv 0), (0, rv B 136)]) dX2_spreadLoadsOf_56 rfl (by decide) rfl ?_
  refine s_sub [1, 0] (lv' := [(0, rv B 136), (3, iv 0)]) rfl ?_
  refine fX2_spreadLoadsOf_L57_s hX _ ?_ fu 0 s9
  intro s14
  exact s_vret hX dX2_spreadLoadsOf_87
abbrev rmX2_changing : Room := { frames := 0, cells := 0, slots := 0, locals := 0 }
abbrev SX2_changing (B : Nat) (X : Ctx) := Sim cX2_changing RX2 3 rmX2_changing B X
set_option maxHeartbeats 4000000 in
set_option maxRecDepth 100000 in
theorem fX2_changing_L4_s {B fu : Nat} {X : Ctx} (hX : CxI .int B X) (k40 : Int → Mem → PR) (hk40 : ∀ (x3 : Int) (s5 : Mem), SX2_changing B X (k40 x3 s5) s5 40 [(1, iv x3)] []) : ∀ (n : Nat) (x1 : Int) (x2 : Int) (s4 : Mem), SX2_changing B X (fX2_changing_L4 fu k40 n x1 x2 s4) s4 4 [(0, rv B 136), (1, iv x1), (2, iv x2)] [] := by
  intro n
  induction n with
  | zero => intro _ _ _; exact s_none
  | succ n ih =>
    intro x1 x2 s1
    rw [fX2_changing_L4]
    refine s_iload_n 2 dX2_changing_4 rfl rfl ?_
    refine s_bipush dX2_changing_5 (by decide) ?_
    refine s_icmp_ge (tgt := 40) dX2_changing_7 (by decide) ?_ ?_
    · exact s_sub [1] rfl (hk40 x1 s1)
    · refine s_iload_n 1 dX2_changing_10 rfl rfl ?_
      refine s_iload_n 2 dX2_changing_11 rfl rfl ?_
      refine s_aload_n 0 dX2_changing_12 rfl rfl ?_
      refine s_geti dX2_changing_13 ly2 fl_X2_82 kd_136 rfl ?_
      refine s_jn (fun (j1 : Int → Mem → PR) => ∀ (x4 : Int) (s3 : Mem), SX2_changing B X (j1 x4 s3) s3 32 [(0, rv B 136), (2, iv x2)] [iv x4, iv x1]) ?_ (fun j1 hj1 => ?_)
      · intro x4 s2
        refine s_iadd dX2_changing_32 ?_
        refine s_lti (fun x5 => ?_)
        refine s_istore_n (lv' := [(1, iv x5), (0, rv B 136), (2, iv x2)]) dX2_changing_33 rfl (by decide) rfl ?_
        refine s_iinc (lv' := [(2, iv (x2 + 1)), (1, iv x5), (0, rv B 136)]) 2 dX2_changing_34 rfl (by decide) rfl ?_
        refine s_goto (tgt := 4) dX2_changing_37 (by decide) ?_
        exact s_sub [2, 1, 0] rfl (ih x5 (x2 + 1) s2)
      · refine s_icmp_ne (tgt := 23) dX2_changing_16 (by decide) ?_ ?_
        · refine s_aload_n 0 dX2_changing_23 rfl rfl ?_
          refine s_getr (n := 133) (k' := 270) dX2_changing_24 ly2 fl_X2_21 kd_136 rfl rfl rfl ?_
          refine s_iload_n 2 dX2_changing_27 rfl rfl ?_
          refine s_aals dX2_changing_28 (fun p1 hp1 => ?_)
          refine s_geti dX2_changing_29 ly4 fl_X2_173 hp1 rfl ?_
          exact s_sub [0, 2] rfl (hj1 (s1 p1 6) s1)
        · refine s_iconst dX2_changing_19 ?_
          refine s_goto (tgt := 32) dX2_changing_20 (by decide) ?_
          exact s_sub [0, 2] rfl (hj1 0 s1)
set_option maxHeartbeats 4000000 in
set_option maxRecDepth 100000 in
theorem ctX2_changing (B fu : Nat) (σ : Mem) : CtI yX2_changing cX2_changing 3 (some .int) rmX2_changing B [rv B 136] σ (fX2_changing fu σ) := by
  refine ctI_intro (own := RX2) (lv := [(0, rv B 136)]) (by decide +kernel) rfl (Nat.le_of_ble_eq_true rfl) rfl (fun X hX => ?_)
  unfold fX2_changing
  refine s_iconst dX2_changing_0 ?_
  refine s_istore_n (lv' := [(1, iv 0), (0, rv B 136)]) dX2_changing_1 rfl (by decide) rfl ?_
  refine s_iconst dX2_changing_2 ?_
  refine s_istore_n (lv' := [(2, iv 0), (1, iv 0), (0, rv B 136)]) dX2_changing_3 rfl (by decide) rfl ?_
  refine s_sub [2, 1, 0] (lv' := [(0, rv B 136), (1, iv 0), (2, iv 0)]) rfl ?_
  refine fX2_changing_L4_s hX _ ?_ fu 0 0 σ
  intro x6 s6
  refine s_iload_n 0 dX2_changing_40 rfl rfl ?_
  exact s_iret hX dX2_changing_41
abbrev rmX2_ridingPoints : Room := { frames := 1, cells := 0, slots := 0, locals := 21 }
abbrev SX2_ridingPoints (B : Nat) (X : Ctx) := Sim cX2_ridingPoints RX2 5 rmX2_ridingPoints B X
set_option maxHeartbeats 4000000 in
set_option maxRecDepth 100000 in
theorem fX2_ridingPoints_L15_s {B fu : Nat} {X : Ctx} (hX : CxL B X) (c1 : Int) (k66 : Int → Mem → PR) (hk66 : ∀ (x6 : Int) (s5 : Mem), SX2_ridingPoints B X (k66 x6 s5) s5 66 [(0, rv B 136), (1, jv x6), (3, iv c1)] []) : ∀ (n : Nat) (x4 : Int) (x5 : Int) (s4 : Mem), SX2_ridingPoints B X (fX2_ridingPoints_L15 fu c1 k66 n x4 x5 s4) s4 15 [(0, rv B 136), (1, jv x4), (3, iv c1), (4, iv x5)] [] := by
  intro n
  induction n with
  | zero => intro _ _ _; exact s_none
  | succ n ih =>
    intro x4 x5 s2
    rw [fX2_ridingPoints_L15]
    refine s_iload 3 dX2_ridingPoints_15 rfl ?_
    refine s_aload_n 0 dX2_ridingPoints_17 rfl rfl ?_
    refine s_getd dX2_ridingPoints_18 ly2 fl_X2_13 kd_136 rfl rfl (fun p1 hp1 => ?_)
    refine s_iload_n 2 dX2_ridingPoints_21 rfl rfl ?_
    refine s_aald dX2_ridingPoints_22 hp1 (fun p2 hp2 => ?_)
    refine s_geti dX2_ridingPoints_23 ly1 fl_X2_77 hp2 rfl ?_
    refine s_iconst dX2_ridingPoints_26 ?_
    refine s_isub dX2_ridingPoints_27 ?_
    refine s_icmp_ge (tgt := 66) dX2_ridingPoints_28 (by decide) ?_ ?_
    · exact s_sub [0, 1, 2] rfl (hk66 x4 s2)
    · refine s_lload_n 1 dX2_ridingPoints_31 rfl rfl ?_
      refine s_aload_n 0 dX2_ridingPoints_32 rfl rfl ?_
      refine s_getd dX2_ridingPoints_33 ly2 fl_X2_13 kd_136 rfl rfl (fun p3 hp3 => ?_)
      refine s_iload_n 2 dX2_ridingPoints_36 rfl rfl ?_
      refine s_aald dX2_ridingPoints_37 hp3 (fun p4 hp4 => ?_)
      refine s_getr (n := 7) (k' := p4 + 8) dX2_ridingPoints_38 ly1 fl_X2_193 hp4 rfl rfl rfl ?_
      refine s_iload 3 dX2_ridingPoints_41 rfl ?_
      refine s_iald 8 dX2_ridingPoints_43 (kdL8 hp4) (by decide) (fun x7 => ?_)
      refine s_i2l dX2_ridingPoints_44 ?_
      refine s_aload_n 0 dX2_ridingPoints_45 rfl rfl ?_
      refine s_getd dX2_ridingPoints_46 ly2 fl_X2_13 kd_136 rfl rfl (fun p5 hp5 => ?_)
      refine s_iload_n 2 dX2_ridingPoints_49 rfl rfl ?_
      refine s_aald dX2_ridingPoints_50 hp5 (fun p6 hp6 => ?_)
      refine s_iload 3 dX2_ridingPoints_51 rfl ?_
      refine s_Vi (rest := [jv (w32 x7), jv x4]) dX2_ridingPoints_53 lk_X2_196 meX1_time (ctX1_time B fu p6 hp6 x5 s2) hp6 ⟨rfl, by decide⟩ rfl rfl ⟨rfl, rfl, by decide, by decide⟩ (Nat.le_of_ble_eq_true rfl) (fun x8 s3 => ?_)
      refine s_i2l dX2_ridingPoints_56 ?_
      refine s_lmul dX2_ridingPoints_57 ?_
      refine s_ladd dX2_ridingPoints_58 ?_
      refine s_ltl (fun x9 => ?_)
      refine s_lstore_n (lv' := [(1, jv x9), (0, rv B 136), (3, iv c1), (4, iv x5)]) dX2_ridingPoints_59 rfl (by decide) rfl ?_
      refine s_iinc (lv' := [(4, iv (x5 + 1)), (1, jv x9), (0, rv B 136), (3, iv c1)]) 3 dX2_ridingPoints_60 rfl (by decide) rfl ?_
      refine s_goto (tgt := 15) dX2_ridingPoints_63 (by decide) ?_
      exact s_sub [2, 1, 3, 0] rfl (ih x9 (x5 + 1) s3)
set_option maxHeartbeats 4000000 in
set_option maxRecDepth 100000 in
theorem fX2_ridingPoints_L4_s {B fu : Nat} {X : Ctx} (hX : CxL B X) (k72 : Int → Mem → PR) (hk72 : ∀ (x3 : Int) (s8 : Mem), SX2_ridingPoints B X (k72 x3 s8) s8 72 [(1, jv x3)] []) : ∀ (n : Nat) (x1 : Int) (x2 : Int) (s7 : Mem), SX2_ridingPoints B X (fX2_ridingPoints_L4 fu k72 n x1 x2 s7) s7 4 [(0, rv B 136), (1, jv x1), (3, iv x2)] [] := by
  intro n
  induction n with
  | zero => intro _ _ _; exact s_none
  | succ n ih =>
    intro x1 x2 s1
    rw [fX2_ridingPoints_L4]
    refine s_iload_n 2 dX2_ridingPoints_4 rfl rfl ?_
    refine s_aload_n 0 dX2_ridingPoints_5 rfl rfl ?_
    refine s_geti dX2_ridingPoints_6 ly2 fl_X2_41 kd_136 rfl ?_
    refine s_icmp_ge (tgt := 72) dX2_ridingPoints_9 (by decide) ?_ ?_
    · exact s_sub [1] rfl (hk72 x1 s1)
    · refine s_iconst dX2_ridingPoints_12 ?_
      refine s_istore (lv' := [(4, iv 0), (0, rv B 136), (1, jv x1), (3, iv x2)]) dX2_ridingPoints_13 (by decide) rfl ?_
      refine s_sub [1, 2, 3, 0] (lv' := [(0, rv B 136), (1, jv x1), (3, iv x2), (4, iv 0)]) rfl ?_
      refine fX2_ridingPoints_L15_s hX x2 _ ?_ fu x1 0 s1
      intro x10 s6
      refine s_iinc (lv' := [(3, iv (x2 + 1)), (0, rv B 136), (1, jv x10)]) 2 dX2_ridingPoints_66 rfl (by decide) rfl ?_
      refine s_goto (tgt := 4) dX2_ridingPoints_69 (by decide) ?_
      exact s_sub [1, 2, 0] rfl (ih x10 (x2 + 1) s6)
set_option maxHeartbeats 4000000 in
set_option maxRecDepth 100000 in
theorem ctX2_ridingPoints (B fu : Nat) (σ : Mem) : CtL yX2_ridingPoints cX2_ridingPoints 5 (some .long) rmX2_ridingPoints B [rv B 136] σ (fX2_ridingPoints fu σ) := by
  refine ctL_intro (own := RX2) (lv := [(0, rv B 136)]) (by decide +kernel) rfl (Nat.le_of_ble_eq_true rfl) rfl (fun X hX => ?_)
  unfold fX2_ridingPoints
  refine s_lconst (x := 0) dX2_ridingPoints_0 (by decide) ?_
  refine s_lstore_n (lv' := [(1, jv 0), (0, rv B 136)]) dX2_ridingPoints_1 rfl (by decide) rfl ?_
  refine s_iconst dX2_ridingPoints_2 ?_
  refine s_istore_n (lv' := [(3, iv 0), (1, jv 0), (0, rv B 136)]) dX2_ridingPoints_3 rfl (by decide) rfl ?_
  refine s_sub [2, 1, 0] (lv' := [(0, rv B 136), (1, jv 0), (3, iv 0)]) rfl ?_
  refine fX2_ridingPoints_L4_s hX _ ?_ fu 0 0 σ
  intro x11 s9
  refine s_lload_n 0 dX2_ridingPoints_72 rfl rfl ?_
  exact s_lret hX dX2_ridingPoints_73
