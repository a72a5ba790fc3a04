abbrev rmX7_journey : Room := { frames := 8, cells := 0, slots := 0, locals := 183 }
abbrev SX7_journey (B : Nat) (X : Ctx) := Sim cX7_journey RX7 3 rmX7_journey B X
set_option maxHeartbeats 4000000 in
set_option maxRecDepth 100000 in
theorem ctX7_journey (B fu : Nat) (a0 : Int) (a1 : Int) (σ : Mem) : CtI yX7_journey cX7_journey 3 (some .int) rmX7_journey B [rv B 328, iv a0, iv a1] σ (fX7_journey fu a0 a1 σ) := by
  refine ctI_intro (own := RX7) (lv := [(0, rv B 328), (1, iv a0), (2, iv a1)]) (by decide +kernel) rfl (Nat.le_of_ble_eq_true rfl) rfl (fun X hX => ?_)
  unfold fX7_journey
  refine s_aload_n 0 dX7_journey_0 rfl rfl ?_
  refine s_iconst dX7_journey_1 ?_
  refine s_puti dX7_journey_2 ly7 ty7 fl_X7_116 kd_328 rfl po7_20 ⟨rfl, rfl, by decide⟩ (fun s1 => ?_)
  refine s_iload_n 1 dX7_journey_5 rfl rfl ?_
  refine s_Si (rest := []) dX7_journey_6 lk_X7_162 meX7_isStop (ctX7_isStop B fu a0 s1) rfl rfl ⟨rfl, rfl, by decide, by decide⟩ (Nat.le_of_ble_eq_true rfl) (fun x1 s2 => ?_)
  refine s_jn (fun (j1 : Mem → PR) => ∀ (s8 : Mem), SX7_journey B X (j1 s8) s8 24 [] []) ?_ (fun j1 hj1 => ?_)
  · intro s3
    refine s_iconst dX7_journey_24 ?_
    exact s_iret hX dX7_journey_25
  · refine s_if_eq (tgt := 24) dX7_journey_9 (by decide) ?_ ?_
    · exact s_sub [] rfl (hj1 s2)
    · refine s_iload_n 2 dX7_journey_12 rfl rfl ?_
      refine s_i2l dX7_journey_13 ?_
      refine s_lconst (x := 0) dX7_journey_14 (by decide) ?_
      refine s_ldc2 (x := 100000) dX7_journey_15 cl_X7_297 (by decide) ?_
      refine s_Si (rest := []) dX7_journey_18 lk_X7_125 meX7_in (ctX7_in B fu (w32 a1) 0 100000 s2) rfl rfl ⟨rfl, rfl, by decide, by decide⟩ (Nat.le_of_ble_eq_true rfl) (fun x2 s4 => ?_)
      refine s_if_ne (tgt := 26) dX7_journey_21 (by decide) ?_ ?_
      · refine s_aload_n 0 dX7_journey_26 rfl rfl ?_
        refine s_Vv (rest := []) dX7_journey_27 lk_X7_246 meX7_laysCosts (ctX7_laysCosts B fu s4) kd_328 ⟨rfl, by decide⟩ rfl rfl ⟨rfl, rfl, by decide, by decide⟩ (Nat.le_of_ble_eq_true rfl) (fun _ s5 => ?_)
        refine s_aload_n 0 dX7_journey_30 rfl rfl ?_
        refine s_getr (n := 17) (k' := 346) dX7_journey_31 ly7 fl_X7_68 kd_328 rfl rfl rfl ?_
        refine s_iload_n 1 dX7_journey_34 rfl rfl ?_
        refine s_lald 10 dX7_journey_35 kd_346 (by decide) (fun x3 => ?_)
        refine s_lconst (x := 0) dX7_journey_36 (by decide) ?_
        refine s_lif_ge (tgt := 44) dX7_journey_37 dX7_journey_38 (by decide) ?_ ?_
        · refine s_aload_n 0 dX7_journey_44 rfl rfl ?_
          refine s_iconst dX7_journey_45 ?_
          refine s_puti dX7_journey_46 ly7 ty7 fl_X7_119 kd_328 rfl po7_19 ⟨rfl, rfl, by decide⟩ (fun s6 => ?_)
          refine s_aload_n 0 dX7_journey_49 rfl rfl ?_
          refine s_iload_n 1 dX7_journey_50 rfl rfl ?_
          refine s_iload_n 2 dX7_journey_51 rfl rfl ?_
          refine s_i2l dX7_journey_52 ?_
          refine s_iconst dX7_journey_53 ?_
          refine s_Vl (rest := []) dX7_journey_54 lk_X7_341 meX7_goes (ctX7_goes B fu a0 (w32 a1) 1 s6) kd_328 ⟨rfl, by decide⟩ rfl rfl ⟨rfl, rfl, by decide, by decide⟩ (Nat.le_of_ble_eq_true rfl) (fun x4 s7 => ?_)
          refine s_l2i dX7_journey_57 ?_
          exact s_iret hX dX7_journey_58
        · refine s_bipush dX7_journey_41 (by decide) ?_
          exact s_iret hX dX7_journey_43
      · exact s_sub [] rfl (hj1 s4)
abbrev rmX7_usual : Room := { frames := 8, cells := 0, slots := 0, locals := 183 }
abbrev SX7_usual (B : Nat) (X : Ctx) := Sim cX7_usual RX7 12 rmX7_usual B X
set_option maxHeartbeats 4000000 in
set_option maxRecDepth 100000 in
theorem fX7_usual_L57_s {B fu : Nat} {X : Ctx} (hX : CxI .int B X) (c1 : Int) (c2 : Int) (k107 : Int → Int → Int → Mem → PR) (hk107 : ∀ (x8 : Int) (x9 : Int) (x10 : Int) (s9 : Mem), SX7_usual B X (k107 x8 x9 x10 s9) s9 107 [(0, rv B 328), (2, iv c2), (3, jv x8), (5, jv x9), (7, jv x10)] []) : ∀ (n : Nat) (x4 : Int) (x5 : Int) (x6 : Int) (x7 : Int) (s8 : Mem), SX7_usual B X (fX7_usual_L57 fu c1 c2 k107 n x4 x5 x6 x7 s8) s8 57 [(0, rv B 328), (1, iv c1), (2, iv c2), (3, jv x4), (5, jv x5), (7, jv x6), (9, iv x7)] [] := by
  intro n
  induction n with
  | zero => intro _ _ _ _ _; exact s_none
  | succ n ih =>
    intro x4 x5 x6 x7 s6
    rw [fX7_usual_L57]
    refine s_iload 6 dX7_usual_57 rfl ?_
    refine s_iload_n 2 dX7_usual_59 rfl rfl ?_
    refine s_icmp_ge (tgt := 107) dX7_usual_60 (by decide) ?_ ?_
    · exact s_sub [0, 2, 3, 4, 5] rfl (hk107 x4 x5 x6 s6)
    · refine s_aload_n 0 dX7_usual_63 rfl rfl ?_
      refine s_iload_n 1 dX7_usual_64 rfl rfl ?_
      refine s_ldc2 (x := 100) dX7_usual_65 cl_X7_195 (by decide) ?_
      refine s_iload 6 dX7_usual_68 rfl ?_
      refine s_i2l dX7_usual_70 ?_
      refine s_lmul dX7_usual_71 ?_
      refine s_iconst dX7_usual_72 ?_
      refine s_Vl (rest := []) dX7_usual_73 lk_X7_341 meX7_goes (ctX7_goes B fu c1 (100 * (w32 x7)) 0 s6) kd_328 ⟨rfl, by decide⟩ rfl rfl ⟨rfl, rfl, by decide, by decide⟩ (Nat.le_of_ble_eq_true rfl) (fun x11 s7 => ?_)
      refine s_lstore (lv' := [(10, jv x11), (0, rv B 328), (1, iv c1), (2, iv c2), (3, jv x4), (5, jv x5), (7, jv x6), (9, iv x7)]) dX7_usual_76 (by decide) rfl ?_
      refine s_lload_n 4 dX7_usual_78 rfl rfl ?_
      refine s_lload 0 dX7_usual_79 rfl ?_
      refine s_ladd dX7_usual_81 ?_
      refine s_ltl (fun x12 => ?_)
      refine s_lstore_n (lv' := [(3, jv x12), (10, jv x11), (0, rv B 328), (1, iv c1), (2, iv c2), (5, jv x5), (7, jv x6), (9, iv x7)]) dX7_usual_82 rfl (by decide) rfl ?_
      refine s_lload 5 dX7_usual_83 rfl ?_
      refine s_lload 1 dX7_usual_85 rfl ?_
      refine s_min64 dX7_usual_87 lk_X7_299 meJ9_min_f86c9 ⟨by decide, by decide⟩ (Nat.le_of_ble_eq_true rfl) ?_
      refine s_ltl (fun x13 => ?_)
      refine s_lstore (lv' := [(5, jv x13), (3, jv x12), (10, jv x11), (0, rv B 328), (1, iv c1), (2, iv c2), (7, jv x6), (9, iv x7)]) dX7_usual_90 (by decide) rfl ?_
      refine s_lload 6 dX7_usual_92 rfl ?_
      refine s_lload 2 dX7_usual_94 rfl ?_
      refine s_max64 dX7_usual_96 lk_X7_349 meJ9_max_f86c9 ⟨by decide, by decide⟩ (Nat.le_of_ble_eq_true rfl) ?_
      refine s_ltl (fun x14 => ?_)
      refine s_lstore (lv' := [(7, jv x14), (5, jv x13), (3, jv x12), (10, jv x11), (0, rv B 328), (1, iv c1), (2, iv c2), (9, iv x7)]) dX7_usual_99 (by decide) rfl ?_
      refine s_iinc (lv' := [(9, iv (x7 + 1)), (7, jv x14), (5, jv x13), (3, jv x12), (10, jv x11), (0, rv B 328), (1, iv c1), (2, iv c2)]) 7 dX7_usual_101 rfl (by decide) rfl ?_
      refine s_goto (tgt := 57) dX7_usual_104 (by decide) ?_
      exact s_sub [5, 6, 7, 3, 2, 1, 0] rfl (ih x12 x13 x14 (x7 + 1) s7)
set_option maxHeartbeats 4000000 in
set_option maxRecDepth 100000 in
theorem ctX7_usual (B fu : Nat) (a0 : Int) (a1 : Int) (σ : Mem) : CtI yX7_usual cX7_usual 12 (some .int) rmX7_usual B [rv B 328, iv a0, iv a1] σ (fX7_usual fu a0 a1 σ) := by
  refine ctI_intro (own := RX7) (lv := [(0, rv B 328), (1, iv a0), (2, iv a1)]) (by decide +kernel) rfl (Nat.le_of_ble_eq_true rfl) rfl (fun X hX => ?_)
  unfold fX7_usual
  refine s_aload_n 0 dX7_usual_0 rfl rfl ?_
  refine s_iconst dX7_usual_1 ?_
  refine s_puti dX7_usual_2 ly7 ty7 fl_X7_116 kd_328 rfl po7_20 ⟨rfl, rfl, by decide⟩ (fun s1 => ?_)
  refine s_iload_n 1 dX7_usual_5 rfl rfl ?_
  refine s_Si (rest := []) dX7_usual_6 lk_X7_162 meX7_isStop (ctX7_isStop B fu a0 s1) rfl rfl ⟨rfl, rfl, by decide, by decide⟩ (Nat.le_of_ble_eq_true rfl) (fun x1 s2 => ?_)
  refine s_jn (fun (j1 : Mem → PR) => ∀ (s14 : Mem), SX7_usual B X (j1 s14) s14 24 [] []) ?_ (fun j1 hj1 => ?_)
  · intro s3
    refine s_iconst dX7_usual_24 ?_
    exact s_iret hX dX7_usual_25
  · refine s_if_eq (tgt := 24) dX7_usual_9 (by decide) ?_ ?_
    · exact s_sub [] rfl (hj1 s2)
    · refine s_iload_n 2 dX7_usual_12 rfl rfl ?_
      refine s_i2l dX7_usual_13 ?_
      refine s_lconst (x := 1) dX7_usual_14 (by decide) ?_
      refine s_ldc2 (x := 60) dX7_usual_15 cl_X7_205 (by decide) ?_
      refine s_Si (rest := []) dX7_usual_18 lk_X7_125 meX7_in (ctX7_in B fu (w32 a1) 1 60 s2) rfl rfl ⟨rfl, rfl, by decide, by decide⟩ (Nat.le_of_ble_eq_true rfl) (fun x2 s4 => ?_)
      refine s_if_ne (tgt := 26) dX7_usual_21 (by decide) ?_ ?_
      · refine s_aload_n 0 dX7_usual_26 rfl rfl ?_
        refine s_Vv (rest := []) dX7_usual_27 lk_X7_246 meX7_laysCosts (ctX7_laysCosts B fu s4) kd_328 ⟨rfl, by decide⟩ rfl rfl ⟨rfl, rfl, by decide, by decide⟩ (Nat.le_of_ble_eq_true rfl) (fun _ s5 => ?_)
        refine s_aload_n 0 dX7_usual_30 rfl rfl ?_
        refine s_getr (n := 17) (k' := 346) dX7_usual_31 ly7 fl_X7_68 kd_328 rfl rfl rfl ?_
        refine s_iload_n 1 dX7_usual_34 rfl rfl ?_
        refine s_lald 10 dX7_usual_35 kd_346 (by decide) (fun x3 => ?_)
        refine s_lconst (x := 0) dX7_usual_36 (by decide) ?_
        refine s_lif_ge (tgt := 44) dX7_usual_37 dX7_usual_38 (by decide) ?_ ?_
        · refine s_lconst (x := 0) dX7_usual_44 (by decide) ?_
          refine s_lstore_n (lv' := [(3, jv 0), (0, rv B 328), (1, iv a0), (2, iv a1)]) dX7_usual_45 rfl (by decide) rfl ?_
          refine s_ldc2 (x := 9223372036854775807) dX7_usual_46 cl_X7_347 (by decide) ?_
          refine s_lstore (lv' := [(5, jv 9223372036854775807), (3, jv 0), (0, rv B 328), (1, iv a0), (2, iv a1)]) dX7_usual_49 (by decide) rfl ?_
          refine s_lconst (x := 0) dX7_usual_51 (by decide) ?_
          refine s_lstore (lv' := [(7, jv 0), (5, jv 9223372036854775807), (3, jv 0), (0, rv B 328), (1, iv a0), (2, iv a1)]) dX7_usual_52 (by decide) rfl ?_
          refine s_iconst dX7_usual_54 ?_
          refine s_istore (lv' := [(9, iv 0), (7, jv 0), (5, jv 9223372036854775807), (3, jv 0), (0, rv B 328), (1, iv a0), (2, iv a1)]) dX7_usual_55 (by decide) rfl ?_
          refine s_sub [4, 5, 6, 3, 2, 1, 0] (lv' := [(0, rv B 328), (1, iv a0), (2, iv a1), (3, jv 0), (5, jv 9223372036854775807), (7, jv 0), (9, iv 0)]) rfl ?_
          refine fX7_usual_L57_s hX a0 a1 _ ?_ fu 0 9223372036854775807 0 0 s5
          intro x15 x16 x17 s10
          refine s_aload_n 0 dX7_usual_107 rfl rfl ?_
          refine s_iconst dX7_usual_108 ?_
          refine s_puti dX7_usual_109 ly7 ty7 fl_X7_119 kd_328 rfl po7_19 ⟨rfl, rfl, by decide⟩ (fun s11 => ?_)
          refine s_aload_n 0 dX7_usual_112 rfl rfl ?_
          refine s_lload 3 dX7_usual_113 rfl ?_
          refine s_Vv (rest := []) dX7_usual_115 lk_X7_211 meX7_tell (ctX7_tell B fu x16 s11) kd_328 ⟨rfl, by decide⟩ rfl rfl ⟨rfl, rfl, by decide, by decide⟩ (Nat.le_of_ble_eq_true rfl) (fun _ s12 => ?_)
          refine s_aload_n 0 dX7_usual_118 rfl rfl ?_
          refine s_lload 4 dX7_usual_119 rfl ?_
          refine s_Vv (rest := []) dX7_usual_121 lk_X7_211 meX7_tell (ctX7_tell B fu x17 s12) kd_328 ⟨rfl, by decide⟩ rfl rfl ⟨rfl, rfl, by decide, by decide⟩ (Nat.le_of_ble_eq_true rfl) (fun _ s13 => ?_)
          refine s_lload_n 2 dX7_usual_124 rfl rfl ?_
          refine s_iload_n 1 dX7_usual_125 rfl rfl ?_
          refine s_i2l dX7_usual_126 ?_
          refine s_ldiv dX7_usual_127 ?_
          refine s_l2i dX7_usual_128 ?_
          exact s_iret hX dX7_usual_129
        · refine s_bipush dX7_usual_41 (by decide) ?_
          exact s_iret hX dX7_usual_43
      · exact s_sub [] rfl (hj1 s4)
abbrev rmX7_ridersMany : Room := { frames := 0, cells := 0, slots := 0, locals := 0 }
abbrev SX7_ridersMany (B : Nat) (X : Ctx) := Sim cX7_ridersMany RX7 3 rmX7_ridersMany B X
set_option maxHeartbeats 4000000 in
set_option maxRecDepth 100000 in
theorem fX7_ridersMany_L4_s {B fu : Nat} {X : Ctx} (hX : CxI .int B X) (k25 : Int → Mem → PR) (hk25 : ∀ (x3 : Int) (s3 : Mem), SX7_ridersMany B X (k25 x3 s3) s3 25 [(1, iv x3)] []) : ∀ (n : Nat) (x1 : Int) (x2 : Int) (s2 : Mem), SX7_ridersMany B X (fX7_ridersMany_L4 fu k25 n x1 x2 s2) s2 4 [(0, rv B 328), (1, iv x1), (2, iv x2)] [] := by
  intro n
  induction n with
  | zero => intro _ _ _; exact s_none
  | succ n ih =>
    intro x1 x2 s1
    rw [fX7_ridersMany_L4]
    refine s_iload_n 2 dX7_ridersMany_4 rfl rfl ?_
    refine s_bipush dX7_ridersMany_5 (by decide) ?_
    refine s_icmp_ge (tgt := 25) dX7_ridersMany_7 (by decide) ?_ ?_
    · exact s_sub [1] rfl (hk25 x1 s1)
    · refine s_iload_n 1 dX7_ridersMany_10 rfl rfl ?_
      refine s_aload_n 0 dX7_ridersMany_11 rfl rfl ?_
      refine s_getr (n := 9) (k' := 338) dX7_ridersMany_12 ly7 fl_X7_43 kd_328 rfl rfl rfl ?_
      refine s_iload_n 2 dX7_ridersMany_15 rfl rfl ?_
      refine s_iald 10 dX7_ridersMany_16 kd_338 (by decide) (fun x4 => ?_)
      refine s_iadd dX7_ridersMany_17 ?_
      refine s_lti (fun x5 => ?_)
      refine s_istore_n (lv' := [(1, iv x5), (0, rv B 328), (2, iv x2)]) dX7_ridersMany_18 rfl (by decide) rfl ?_
      refine s_iinc (lv' := [(2, iv (x2 + 1)), (1, iv x5), (0, rv B 328)]) 2 dX7_ridersMany_19 rfl (by decide) rfl ?_
      refine s_goto (tgt := 4) dX7_ridersMany_22 (by decide) ?_
      exact s_sub [2, 1, 0] rfl (ih x5 (x2 + 1) s1)
set_option maxHeartbeats 4000000 in
set_option maxRecDepth 100000 in
theorem ctX7_ridersMany (B fu : Nat) (σ : Mem) : CtI yX7_ridersMany cX7_ridersMany 3 (some .int) rmX7_ridersMany B [rv B 328] σ (fX7_ridersMany fu σ) := by
  refine ctI_intro (own := RX7) (lv := [(0, rv B 328)]) (by decide +kernel) rfl (Nat.le_of_ble_eq_true rfl) rfl (fun X hX => ?_)
  unfold fX7_ridersMany
  refine s_iconst dX7_ridersMany_0 ?_
  refine s_istore_n (lv' := [(1, iv 0), (0, rv B 328)]) dX7_ridersMany_1 rfl (by decide) rfl ?_
  refine s_iconst dX7_ridersMany_2 ?_
  refine s_istore_n (lv' := [(2, iv 0), (1, iv 0), (0, rv B 328)]) dX7_ridersMany_3 rfl (by decide) rfl ?_
  refine s_sub [2, 1, 0] (lv' := [(0, rv B 328), (1, iv 0), (2, iv 0)]) rfl ?_
  refine fX7_ridersMany_L4_s hX _ ?_ fu 0 0 σ
  intro x6 s4
  refine s_iload_n 0 dX7_ridersMany_25 rfl rfl ?_
  exact s_iret hX dX7_ridersMany_26
abbrev rmX7_stepMany : Room := { frames := 0, cells := 0, slots := 0, locals := 0 }
abbrev SX7_stepMany (B : Nat) (X : Ctx) := Sim cX7_stepMany RX7 3 rmX7_stepMany B X
set_option maxHeartbeats 4000000 in
set_option maxRecDepth 100000 in
theorem fX7_stepMany_L4_s {B fu : Nat} {X : Ctx} (hX : CxI .int B X) (k29 : Int → Mem → PR) (hk29 : ∀ (x3 : Int) (s3 : Mem), SX7_stepMany B X (k29 x3 s3) s3 29 [(1, iv x3)] []) : ∀ (n : Nat) (x1 : Int) (x2 : Int) (s2 : Mem), SX7_stepMany B X (fX7_stepMany_L4 fu k29 n x1 x2 s2) s2 4 [(0, rv B 328), (1, iv x1), (2, iv x2)] [] := by
  intro n
  induction n with
  | zero => intro _ _ _; exact s_none
  | succ n ih =>
    intro x1 x2 s1
    rw [fX7_stepMany_L4]
    refine s_iload_n 2 dX7_stepMany_4 rfl rfl ?_
    refine s_aload_n 0 dX7_stepMany_5 rfl rfl ?_
    refine s_geti dX7_stepMany_6 ly7 fl_X7_129 kd_328 rfl ?_
    refine s_icmp_ge (tgt := 29) dX7_stepMany_9 (by decide) ?_ ?_
    · exact s_sub [1] rfl (hk29 x1 s1)
    · refine s_iload_n 1 dX7_stepMany_12 rfl rfl ?_
      refine s_aload_n 0 dX7_stepMany_13 rfl rfl ?_
      refine s_getr (n := 1) (k' := 330) dX7_stepMany_14 ly7 fl_X7_13 kd_328 rfl rfl rfl ?_
      refine s_iload_n 2 dX7_stepMany_17 rfl rfl ?_
      refine s_iald 12 dX7_stepMany_18 kd_330 (by decide) (fun x4 => ?_)
      refine s_iconst dX7_stepMany_19 ?_
      refine s_isub dX7_stepMany_20 ?_
      refine s_iadd dX7_stepMany_21 ?_
      refine s_lti (fun x5 => ?_)
      refine s_istore_n (lv' := [(1, iv x5), (0, rv B 328), (2, iv x2)]) dX7_stepMany_22 rfl (by decide) rfl ?_
      refine s_iinc (lv' := [(2, iv (x2 + 1)), (1, iv x5), (0, rv B 328)]) 2 dX7_stepMany_23 rfl (by decide) rfl ?_
      refine s_goto (tgt := 4) dX7_stepMany_26 (by decide) ?_
      exact s_sub [2, 1, 0] rfl (ih x5 (x2 + 1) s1)
set_option maxHeartbeats 4000000 in
set_option maxRecDepth 100000 in
theorem ctX7_stepMany (B fu : Nat) (σ : Mem) : CtI yX7_stepMany cX7_stepMany 3 (some .int) rmX7_stepMany B [rv B 328] σ (fX7_stepMany fu σ) := by
  refine ctI_intro (own := RX7) (lv := [(0, rv B 328)]) (by decide +kernel) rfl (Nat.le_of_ble_eq_true rfl) rfl (fun X hX => ?_)
  unfold fX7_stepMany
  refine s_iconst dX7_stepMany_0 ?_
  refine s_istore_n (lv' := [(1, iv 0), (0, rv B 328)]) dX7_stepMany_1 rfl (by decide) rfl ?_
  refine s_iconst dX7_stepMany_2 ?_
  refine s_istore_n (lv' := [(2, iv 0), (1, iv 0), (0, rv B 328)]) dX7_stepMany_3 rfl (by decide) rfl ?_
  refine s_sub [2, 1, 0] (lv' := [(0, rv B 328), (1, iv 0), (2, iv 0)]) rfl ?_
  refine fX7_stepMany_L4_s hX _ ?_ fu 0 0 σ
  intro x6 s4
  refine s_iload_n 0 dX7_stepMany_29 rfl rfl ?_
  exact s_iret hX dX7_stepMany_30
abbrev rmX7_closedBits : Room := { frames := 0, cells := 0, slots := 0, locals := 0 }
abbrev SX7_closedBits (B : Nat) (X : Ctx) := Sim cX7_closedBits RX7 3 rmX7_closedBits B X
set_option maxHeartbeats 4000000 in
set_option maxRecDepth 100000 in
theorem fX7_closedBits_L4_s {B fu : Nat} {X : Ctx} (hX : CxI .int B X) (k35 : Int → Mem → PR) (hk35 : ∀ (x3 : Int) (s5 : Mem), SX7_closedBits B X (k35 x3 s5) s5 35 [(1, iv x3)] []) : ∀ (n : Nat) (x1 : Int) (x2 : Int) (s4 : Mem), SX7_closedBits B X (fX7_closedBits_L4 fu k35 n x1 x2 s4) s4 4 [(0, rv B 328), (1, iv x1), (2, iv x2)] [] := by
  intro n
  induction n with
  | zero => intro _ _ _; exact s_none
  | succ n ih =>
    intro x1 x2 s1
    rw [fX7_closedBits_L4]
    refine s_iload_n 2 dX7_closedBits_4 rfl rfl ?_
    refine s_bipush dX7_closedBits_5 (by decide) ?_
    refine s_icmp_ge (tgt := 35) dX7_closedBits_7 (by decide) ?_ ?_
    · exact s_sub [1] rfl (hk35 x1 s1)
    · refine s_iload_n 1 dX7_closedBits_10 rfl rfl ?_
      refine s_aload_n 0 dX7_closedBits_11 rfl rfl ?_
      refine s_getr (n := 10) (k' := 339) dX7_closedBits_12 ly7 fl_X7_46 kd_328 rfl rfl rfl ?_
      refine s_iload_n 2 dX7_closedBits_15 rfl rfl ?_
      refine s_zald 10 dX7_closedBits_16 kd_339 (by decide) (fun x4 => ?_)
      refine s_jn (fun (j1 : Int → Mem → PR) => ∀ (x5 : Int) (s3 : Mem), SX7_closedBits B X (j1 x5 s3) s3 27 [(0, rv B 328), (2, iv x2)] [iv x5, iv x1]) ?_ (fun j1 hj1 => ?_)
      · intro x5 s2
        refine s_ior dX7_closedBits_27 ?_
        refine s_lti (fun x6 => ?_)
        refine s_istore_n (lv' := [(1, iv x6), (0, rv B 328), (2, iv x2)]) dX7_closedBits_28 rfl (by decide) rfl ?_
        refine s_iinc (lv' := [(2, iv (x2 + 1)), (1, iv x6), (0, rv B 328)]) 2 dX7_closedBits_29 rfl (by decide) rfl ?_
        refine s_goto (tgt := 4) dX7_closedBits_32 (by decide) ?_
        exact s_sub [2, 1, 0] rfl (ih x6 (x2 + 1) s2)
      · refine s_if_eq (tgt := 26) dX7_closedBits_17 (by decide) ?_ ?_
        · refine s_iconst dX7_closedBits_26 ?_
          exact s_sub [0, 2] rfl (hj1 0 s1)
        · refine s_iconst dX7_closedBits_20 ?_
          refine s_iload_n 2 dX7_closedBits_21 rfl rfl ?_
          refine s_ishl dX7_closedBits_22 ?_
          refine s_goto (tgt := 27) dX7_closedBits_23 (by decide) ?_
          exact s_sub [0, 2] rfl (hj1 (shl32 1 x2) s1)
set_option maxHeartbeats 4000000 in
set_option maxRecDepth 100000 in
theorem ctX7_closedBits (B fu : Nat) (σ : Mem) : CtI yX7_closedBits cX7_closedBits 3 (some .int) rmX7_closedBits B [rv B 328] σ (fX7_closedBits fu σ) := by
  refine ctI_intro (own := RX7) (lv := [(0, rv B 328)]) (by decide +kernel) rfl (Nat.le_of_ble_eq_true rfl) rfl (fun X hX => ?_)
  unfold fX7_closedBits
  refine s_iconst dX7_closedBits_0 ?_
  refine s_istore_n (lv' := [(1, iv 0), (0, rv B 328)]) dX7_closedBits_1 rfl (by decide) rfl ?_
  refine s_iconst dX7_closedBits_2 ?_
  refine s_istore_n (lv' := [(2, iv 0), (1, iv 0), (0, rv B 328)]) dX7_closedBits_3 rfl (by decide) rfl ?_
  refine s_sub [2, 1, 0] (lv' := [(0, rv B 328), (1, iv 0), (2, iv 0)]) rfl ?_
  refine fX7_closedBits_L4_s hX _ ?_ fu 0 0 σ
  intro x7 s6
  refine s_iload_n 0 dX7_closedBits_35 rfl rfl ?_
  exact s_iret hX dX7_closedBits_36
abbrev rmX7_outBits : Room := { frames := 0, cells := 0, slots := 0, locals := 0 }
abbrev SX7_outBits (B : Nat) (X : Ctx) := Sim cX7_outBits RX7 3 rmX7_outBits B X
set_option maxHeartbeats 4000000 in
set_option maxRecDepth 100000 in
theorem fX7_outBits_L4_s {B fu : Nat} {X : Ctx} (hX : CxI .int B X) (k37 : Int → Mem → PR) (hk37 : ∀ (x3 : Int) (s5 : Mem), SX7_outBits B X (k37 x3 s5) s5 37 [(1, iv x3)] []) : ∀ (n : Nat) (x1 : Int) (x2 : Int) (s4 : Mem), SX7_outBits B X (fX7_outBits_L4 fu k37 n x1 x2 s4) s4 4 [(0, rv B 328), (1, iv x1), (2, iv x2)] [] := by
  intro n
  induction n with
  | zero => intro _ _ _; exact s_none
  | succ n ih =>
    intro x1 x2 s1
    rw [fX7_outBits_L4]
    refine s_iload_n 2 dX7_outBits_4 rfl rfl ?_
    refine s_aload_n 0 dX7_outBits_5 rfl rfl ?_
    refine s_geti dX7_outBits_6 ly7 fl_X7_129 kd_328 rfl ?_
    refine s_icmp_ge (tgt := 37) dX7_outBits_9 (by decide) ?_ ?_
    · exact s_sub [1] rfl (hk37 x1 s1)
    · refine s_iload_n 1 dX7_outBits_12 rfl rfl ?_
      refine s_aload_n 0 dX7_outBits_13 rfl rfl ?_
      refine s_getr (n := 8) (k' := 337) dX7_outBits_14 ly7 fl_X7_35 kd_328 rfl rfl rfl ?_
      refine s_iload_n 2 dX7_outBits_17 rfl rfl ?_
      refine s_zald 12 dX7_outBits_18 kd_337 (by decide) (fun x4 => ?_)
      refine s_jn (fun (j1 : Int → Mem → PR) => ∀ (x5 : Int) (s3 : Mem), SX7_outBits B X (j1 x5 s3) s3 29 [(0, rv B 328), (2, iv x2)] [iv x5, iv x1]) ?_ (fun j1 hj1 => ?_)
      · intro x5 s2
        refine s_ior dX7_outBits_29 ?_
        refine s_lti (fun x6 => ?_)
        refine s_istore_n (lv' := [(1, iv x6), (0, rv B 328), (2, iv x2)]) dX7_outBits_30 rfl (by decide) rfl ?_
        refine s_iinc (lv' := [(2, iv (x2 + 1)), (1, iv x6), (0, rv B 328)]) 2 dX7_outBits_31 rfl (by decide) rfl ?_
        refine s_goto (tgt := 4) dX7_outBits_34 (by decide) ?_
        exact s_sub [2, 1, 0] rfl (ih x6 (x2 + 1) s2)
      · refine s_if_eq (tgt := 28) dX7_outBits_19 (by decide) ?_ ?_
        · refine s_iconst dX7_outBits_28 ?_
          exact s_sub [0, 2] rfl (hj1 0 s1)
        · refine s_iconst dX7_outBits_22 ?_
          refine s_iload_n 2 dX7_outBits_23 rfl rfl ?_
          refine s_ishl dX7_outBits_24 ?_
          refine s_goto (tgt := 29) dX7_outBits_25 (by decide) ?_
          exact s_sub [0, 2] rfl (hj1 (shl32 1 x2) s1)
set_option maxHeartbeats 4000000 in
set_option maxRecDepth 100000 in
theorem ctX7_outBits (B fu : Nat) (σ : Mem) : CtI yX7_outBits cX7_outBits 3 (some .int) rmX7_outBits B [rv B 328] σ (fX7_outBits fu σ) := by
  refine ctI_intro (own := RX7) (lv := [(0, rv B 328)]) (by decide +kernel) rfl (Nat.le_of_ble_eq_true rfl) rfl (fun X hX => ?_)
  unfold fX7_outBits
  refine s_iconst dX7_outBits_0 ?_
  refine s_istore_n (lv' := [(1, iv 0), (0, rv B 328)]) dX7_outBits_1 rfl (by decide) rfl ?_
  refine s_iconst dX7_outBits_2 ?_
  refine s_istore_n (lv' := [(2, iv 0), (1, iv 0), (0, rv B 328)]) dX7_outBits_3 rfl (by decide) rfl ?_
  refine s_sub [2, 1, 0] (lv' := [(0, rv B 328), (1, iv 0), (2, iv 0)]) rfl ?_
  refine fX7_outBits_L4_s hX _ ?_ fu 0 0 σ
  intro x7 s6
  refine s_iload_n 0 dX7_outBits_37 rfl rfl ?_
  exact s_iret hX dX7_outBits_38
abbrev rmX7_unusedBits : Room := { frames := 8, cells := 0, slots := 0, locals := 183 }
abbrev SX7_unusedBits (B : Nat) (X : Ctx) := Sim cX7_unusedBits RX7 4 rmX7_unusedBits B X
set_option maxHeartbeats 4000000 in
set_option maxRecDepth 100000 in
theorem fX7_unusedBits_L23_s {B fu : Nat} {X : Ctx} (hX : CxI .int B X) (c1 : Int) (k57 : Int → Mem → PR) (hk57 : ∀ (x7 : Int) (s5 : Mem), SX7_unusedBits B X (k57 x7 s5) s5 57 [(0, rv B 328), (1, iv x7), (2, iv c1)] []) : ∀ (n : Nat) (x5 : Int) (x6 : Int) (s4 : Mem), SX7_unusedBits B X (fX7_unusedBits_L23 fu c1 k57 n x5 x6 s4) s4 23 [(0, rv B 328), (1, iv x5), (2, iv c1), (3, iv x6)] [] := by
  intro n
  induction n with
  | zero => intro _ _ _; exact s_none
  | succ n ih =>
    intro x5 x6 s3
    rw [fX7_unusedBits_L23]
    refine s_iload_n 3 dX7_unusedBits_23 rfl rfl ?_
    refine s_aload_n 0 dX7_unusedBits_24 rfl rfl ?_
    refine s_getr (n := 23) (k' := 352) dX7_unusedBits_25 ly7 fl_X7_86 kd_328 rfl rfl rfl ?_
    refine s_iload_n 2 dX7_unusedBits_28 rfl rfl ?_
    refine s_iald 10 dX7_unusedBits_29 kd_352 (by decide) (fun x8 => ?_)
    refine s_icmp_ge (tgt := 57) dX7_unusedBits_30 (by decide) ?_ ?_
    · exact s_sub [0, 1, 2] rfl (hk57 x5 s3)
    · refine s_iload_n 1 dX7_unusedBits_33 rfl rfl ?_
      refine s_iconst dX7_unusedBits_34 ?_
      refine s_aload_n 0 dX7_unusedBits_35 rfl rfl ?_
      refine s_getr (n := 22) (k' := 351) dX7_unusedBits_36 ly7 fl_X7_83 kd_328 rfl rfl rfl ?_
      refine s_bipush dX7_unusedBits_39 (by decide) ?_
      refine s_iload_n 2 dX7_unusedBits_41 rfl rfl ?_
      refine s_imul dX7_unusedBits_42 ?_
      refine s_iload_n 3 dX7_unusedBits_43 rfl rfl ?_
      refine s_iadd dX7_unusedBits_44 ?_
      refine s_iald 120 dX7_unusedBits_45 kd_351 (by decide) (fun x9 => ?_)
      refine s_ishl dX7_unusedBits_46 ?_
      refine s_iconst dX7_unusedBits_47 ?_
      refine s_ixor dX7_unusedBits_48 ?_
      refine s_iand dX7_unusedBits_49 ?_
      refine s_lti (fun x10 => ?_)
      refine s_istore_n (lv' := [(1, iv x10), (0, rv B 328), (2, iv c1), (3, iv x6)]) dX7_unusedBits_50 rfl (by decide) rfl ?_
      refine s_iinc (lv' := [(3, iv (x6 + 1)), (1, iv x10), (0, rv B 328), (2, iv c1)]) 3 dX7_unusedBits_51 rfl (by decide) rfl ?_
      refine s_goto (tgt := 23) dX7_unusedBits_54 (by decide) ?_
      exact s_sub [2, 1, 3, 0] rfl (ih x10 (x6 + 1) s3)
set_option maxHeartbeats 4000000 in
set_option maxRecDepth 100000 in
theorem fX7_unusedBits_L15_s {B fu : Nat} {X : Ctx} (hX : CxI .int B X) (k63 : Int → Mem → PR) (hk63 : ∀ (x4 : Int) (s8 : Mem), SX7_unusedBits B X (k63 x4 s8) s8 63 [(1, iv x4)] []) : ∀ (n : Nat) (x2 : Int) (x3 : Int) (s7 : Mem), SX7_unusedBits B X (fX7_unusedBits_L15 fu k63 n x2 x3 s7) s7 15 [(0, rv B 328), (1, iv x2), (2, iv x3)] [] := by
  intro n
  induction n with
  | zero => intro _ _ _; exact s_none
  | succ n ih =>
    intro x2 x3 s2
    rw [fX7_unusedBits_L15]
    refine s_iload_n 2 dX7_unusedBits_15 rfl rfl ?_
    refine s_bipush dX7_unusedBits_16 (by decide) ?_
    refine s_icmp_ge (tgt := 63) dX7_unusedBits_18 (by decide) ?_ ?_
    · exact s_sub [1] rfl (hk63 x2 s2)
    · refine s_iconst dX7_unusedBits_21 ?_
      refine s_istore_n (lv' := [(3, iv 0), (0, rv B 328), (1, iv x2), (2, iv x3)]) dX7_unusedBits_22 rfl (by decide) rfl ?_
      refine s_sub [1, 2, 3, 0] (lv' := [(0, rv B 328), (1, iv x2), (2, iv x3), (3, iv 0)]) rfl ?_
      refine fX7_unusedBits_L23_s hX x3 _ ?_ fu x2 0 s2
      intro x11 s6
      refine s_iinc (lv' := [(2, iv (x3 + 1)), (0, rv B 328), (1, iv x11)]) 2 dX7_unusedBits_57 rfl (by decide) rfl ?_
      refine s_goto (tgt := 15) dX7_unusedBits_60 (by decide) ?_
      exact s_sub [1, 2, 0] rfl (ih x11 (x3 + 1) s6)
set_option maxHeartbeats 4000000 in
set_option maxRecDepth 100000 in
theorem ctX7_unusedBits (B fu : Nat) (σ : Mem) : CtI yX7_unusedBits cX7_unusedBits 4 (some .int) rmX7_unusedBits B [rv B 328] σ (fX7_unusedBits fu σ) := by
  refine ctI_intro (own := RX7) (lv := [(0, rv B 328)]) (by decide +kernel) rfl (Nat.le_of_ble_eq_true rfl) rfl (fun X hX => ?_)
  unfold fX7_unusedBits
  refine s_aload_n 0 dX7_unusedBits_0 rfl rfl ?_
  refine s_Vv (rest := []) dX7_unusedBits_1 lk_X7_246 meX7_laysCosts (ctX7_laysCosts B fu σ) kd_328 ⟨rfl, by decide⟩ rfl rfl ⟨rfl, rfl, by decide, by decide⟩ (Nat.le_of_ble_eq_true rfl) (fun _ s1 => ?_)
  refine s_iconst dX7_unusedBits_4 ?_
  refine s_aload_n 0 dX7_unusedBits_5 rfl rfl ?_
  refine s_geti dX7_unusedBits_6 ly7 fl_X7_129 kd_328 rfl ?_
  refine s_ishl dX7_unusedBits_9 ?_
  refine s_iconst dX7_unusedBits_10 ?_
  refine s_isub dX7_unusedBits_11 ?_
  refine s_lti (fun x1 => ?_)
  refine s_istore_n (lv' := [(1, iv x1), (0, rv B 328)]) dX7_unusedBits_12 rfl (by decide) rfl ?_
  refine s_iconst dX7_unusedBits_13 ?_
  refine s_istore_n (lv' := [(2, iv 0), (1, iv x1), (0, rv B 328)]) dX7_unusedBits_14 rfl (by decide) rfl ?_
  refine s_sub [2, 1, 0] (lv' := [(0, rv B 328), (1, iv x1), (2, iv 0)]) rfl ?_
  refine fX7_unusedBits_L15_s hX _ ?_ fu x1 0 s1
  intro x12 s9
  refine s_iload_n 0 dX7_unusedBits_63 rfl rfl ?_
  exact s_iret hX dX7_unusedBits_64
abbrev rmX7_costedBits : Room := { frames := 8, cells := 0, slots := 0, locals := 183 }
abbrev SX7_costedBits (B : Nat) (X : Ctx) := Sim cX7_costedBits RX7 3 rmX7_costedBits B X
set_option maxHeartbeats 4000000 in
set_option maxRecDepth 100000 in
theorem fX7_costedBits_L8_s {B fu : Nat} {X : Ctx} (hX : CxI .int B X) (k41 : Int → Mem → PR) (hk41 : ∀ (x3 : Int) (s6 : Mem), SX7_costedBits B X (k41 x3 s6) s6 41 [(1, iv x3)] []) : ∀ (n : Nat) (x1 : Int) (x2 : Int) (s5 : Mem), SX7_costedBits B X (fX7_costedBits_L8 fu k41 n x1 x2 s5) s5 8 [(0, rv B 328), (1, iv x1), (2, iv x2)] [] := by
  intro n
  induction n with
  | zero => intro _ _ _; exact s_none
  | succ n ih =>
    intro x1 x2 s2
    rw [fX7_costedBits_L8]
    refine s_iload_n 2 dX7_costedBits_8 rfl rfl ?_
    refine s_bipush dX7_costedBits_9 (by decide) ?_
    refine s_icmp_ge (tgt := 41) dX7_costedBits_11 (by decide) ?_ ?_
    · exact s_sub [1] rfl (hk41 x1 s2)
    · refine s_iload_n 1 dX7_costedBits_14 rfl rfl ?_
      refine s_aload_n 0 dX7_costedBits_15 rfl rfl ?_
      refine s_getr (n := 17) (k' := 346) dX7_costedBits_16 ly7 fl_X7_68 kd_328 rfl rfl rfl ?_
      refine s_iload_n 2 dX7_costedBits_19 rfl rfl ?_
      refine s_lald 10 dX7_costedBits_20 kd_346 (by decide) (fun x4 => ?_)
      refine s_lconst (x := 0) dX7_costedBits_21 (by decide) ?_
      refine s_jn (fun (j1 : Int → Mem → PR) => ∀ (x5 : Int) (s4 : Mem), SX7_costedBits B X (j1 x5 s4) s4 33 [(0, rv B 328), (2, iv x2)] [iv x5, iv x1]) ?_ (fun j1 hj1 => ?_)
      · intro x5 s3
        refine s_ior dX7_costedBits_33 ?_
        refine s_lti (fun x6 => ?_)
        refine s_istore_n (lv' := [(1, iv x6), (0, rv B 328), (2, iv x2)]) dX7_costedBits_34 rfl (by decide) rfl ?_
        refine s_iinc (lv' := [(2, iv (x2 + 1)), (1, iv x6), (0, rv B 328)]) 2 dX7_costedBits_35 rfl (by decide) rfl ?_
        refine s_goto (tgt := 8) dX7_costedBits_38 (by decide) ?_
        exact s_sub [2, 1, 0] rfl (ih x6 (x2 + 1) s3)
      · refine s_lif_lt (tgt := 32) dX7_costedBits_22 dX7_costedBits_23 (by decide) ?_ ?_
        · refine s_iconst dX7_costedBits_32 ?_
          exact s_sub [0, 2] rfl (hj1 0 s2)
        · refine s_iconst dX7_costedBits_26 ?_
          refine s_iload_n 2 dX7_costedBits_27 rfl rfl ?_
          refine s_ishl dX7_costedBits_28 ?_
          refine s_goto (tgt := 33) dX7_costedBits_29 (by decide) ?_
          exact s_sub [0, 2] rfl (hj1 (shl32 1 x2) s2)
set_option maxHeartbeats 4000000 in
set_option maxRecDepth 100000 in
theorem ctX7_costedBits (B fu : Nat) (σ : Mem) : CtI yX7_costedBits cX7_costedBits 3 (some .int) rmX7_costedBits B [rv B 328] σ (fX7_costedBits fu σ) := by
  refine ctI_intro (own := RX7) (lv := [(0, rv B 328)]) (by decide +kernel) rfl (Nat.le_of_ble_eq_true rfl) rfl (fun X hX => ?_)
  unfold fX7_costedBits
  refine s_aload_n 0 dX7_costedBits_0 rfl rfl ?_
  refine s_Vv (rest := []) dX7_costedBits_1 lk_X7_246 meX7_laysCosts (ctX7_laysCosts B fu σ) kd_328 ⟨rfl, by decide⟩ rfl rfl ⟨rfl, rfl, by decide, by decide⟩ (Nat.le_of_ble_eq_true rfl) (fun _ s1 => ?_)
  refine s_iconst dX7_costedBits_4 ?_
  refine s_istore_n (lv' := [(1, iv 0), (0, rv B 328)]) dX7_costedBits_5 rfl (by decide) rfl ?_
  refine s_iconst dX7_costedBits_6 ?_
  refine s_istore_n (lv' := [(2, iv 0), (1, iv 0), (0, rv B 328)]) dX7_costedBits_7 rfl (by decide) rfl ?_
  refine s_sub [2, 1, 0] (lv' := [(0, rv B 328), (1, iv 0), (2, iv 0)]) rfl ?_
  refine fX7_costedBits_L8_s hX _ ?_ fu 0 0 s1
  intro x7 s7
  refine s_iload_n 0 dX7_costedBits_41 rfl rfl ?_
  exact s_iret hX dX7_costedBits_42
abbrev rmX7_count : Room := { frames := 9, cells := 0, slots := 0, locals := 206 }
abbrev SX7_count (B : Nat) (X : Ctx) := Sim cX7_count RX7 2 rmX7_count B X
set_option maxHeartbeats 4000000 in
set_option maxRecDepth 100000 in
theorem ctX7_count (B fu : Nat) (a0 : Int) (σ : Mem) : CtI yX7_count cX7_count 2 (some .int) rmX7_count B [rv B 328, iv a0] σ (fX7_count fu a0 σ) := by
  refine ctI_intro (own := RX7) (lv := [(0, rv B 328), (1, iv a0)]) (by decide +kernel) rfl (Nat.le_of_ble_eq_true rfl) rfl (fun X hX => ?_)
  unfold fX7_count
  refine s_aload_n 0 dX7_count_0 rfl rfl ?_
  refine s_iconst dX7_count_1 ?_
  refine s_puti dX7_count_2 ly7 ty7 fl_X7_116 kd_328 rfl po7_20 ⟨rfl, rfl, by decide⟩ (fun s1 => ?_)
  refine s_iload_n 1 dX7_count_5 rfl rfl ?_
  refine s_ite1 (fun hd0 => ?_) ?_
  · refine s_tabO (tgt := 137) dX7_count_6 hd0 (by decide) ?_
    refine s_iconst dX7_count_137 ?_
    exact s_iret hX dX7_count_138
  · refine s_ite1 (fun h0 => ?_) ?_
    · refine s_tabI (tgt := 72) dX7_count_6 0 h0 (by decide) (by decide) rfl (by decide) ?_
      refine s_aload_n 0 dX7_count_72 rfl rfl ?_
      refine s_geti dX7_count_73 ly7 fl_X7_129 kd_328 rfl ?_
      exact s_iret hX dX7_count_76
    · refine s_ite1 (fun h1 => ?_) ?_
      · refine s_tabI (tgt := 77) dX7_count_6 1 h1 (by decide) (by decide) rfl (by decide) ?_
        refine s_aload_n 0 dX7_count_77 rfl rfl ?_
        refine s_geti dX7_count_78 ly7 fl_X7_39 kd_328 rfl ?_
        exact s_iret hX dX7_count_81
      · refine s_ite1 (fun h2 => ?_) ?_
        · refine s_tabI (tgt := 82) dX7_count_6 2 h2 (by decide) (by decide) rfl (by decide) ?_
          refine s_aload_n 0 dX7_count_82 rfl rfl ?_
          refine s_geti dX7_count_83 ly7 fl_X7_197 kd_328 rfl ?_
          exact s_iret hX dX7_count_86
        · refine s_ite1 (fun h3 => ?_) ?_
          · refine s_tabI (tgt := 87) dX7_count_6 3 h3 (by decide) (by decide) rfl (by decide) ?_
            refine s_aload_n 0 dX7_count_87 rfl rfl ?_
            refine s_Vi (rest := []) dX7_count_88 lk_X7_352 meX7_ridersMany (ctX7_ridersMany B fu s1) kd_328 ⟨rfl, by decide⟩ rfl rfl ⟨rfl, rfl, by decide, by decide⟩ (Nat.le_of_ble_eq_true rfl) (fun x1 s2 => ?_)
            exact s_iret hX dX7_count_91
          · refine s_ite1 (fun h4 => ?_) ?_
            · refine s_tabI (tgt := 92) dX7_count_6 4 h4 (by decide) (by decide) rfl (by decide) ?_
              refine s_aload_n 0 dX7_count_92 rfl rfl ?_
              refine s_geti dX7_count_93 ly7 fl_X7_282 kd_328 rfl ?_
              exact s_iret hX dX7_count_96
            · refine s_ite1 (fun h5 => ?_) ?_
              · refine s_tabI (tgt := 97) dX7_count_6 5 h5 (by decide) (by decide) rfl (by decide) ?_
                refine s_aload_n 0 dX7_count_97 rfl rfl ?_
                refine s_geti dX7_count_98 ly7 fl_X7_192 kd_328 rfl ?_
                exact s_iret hX dX7_count_101
              · refine s_ite1 (fun h6 => ?_) ?_
                · refine s_tabI (tgt := 102) dX7_count_6 6 h6 (by decide) (by decide) rfl (by decide) ?_
                  refine s_aload_n 0 dX7_count_102 rfl rfl ?_
                  refine s_Vi (rest := []) dX7_count_103 lk_X7_355 meX7_stepMany (ctX7_stepMany B fu s1) kd_328 ⟨rfl, by decide⟩ rfl rfl ⟨rfl, rfl, by decide, by decide⟩ (Nat.le_of_ble_eq_true rfl) (fun x2 s3 => ?_)
                  exact s_iret hX dX7_count_106
                · refine s_ite1 (fun h7 => ?_) ?_
                  · refine s_tabI (tgt := 107) dX7_count_6 7 h7 (by decide) (by decide) rfl (by decide) ?_
                    refine s_aload_n 0 dX7_count_107 rfl rfl ?_
                    refine s_Vi (rest := []) dX7_count_108 lk_X7_358 meX7_closedBits (ctX7_closedBits B fu s1) kd_328 ⟨rfl, by decide⟩ rfl rfl ⟨rfl, rfl, by decide, by decide⟩ (Nat.le_of_ble_eq_true rfl) (fun x3 s4 => ?_)
                    exact s_iret hX dX7_count_111
                  · refine s_ite1 (fun h8 => ?_) ?_
                    · refine s_tabI (tgt := 112) dX7_count_6 8 h8 (by decide) (by decide) rfl (by decide) ?_
                      refine s_aload_n 0 dX7_count_112 rfl rfl ?_
                      refine s_Vi (rest := []) dX7_count_113 lk_X7_361 meX7_outBits (ctX7_outBits B fu s1) kd_328 ⟨rfl, by decide⟩ rfl rfl ⟨rfl, rfl, by decide, by decide⟩ (Nat.le_of_ble_eq_true rfl) (fun x4 s5 => ?_)
                      exact s_iret hX dX7_count_116
                    · refine s_ite1 (fun h9 => ?_) ?_
                      · refine s_tabI (tgt := 117) dX7_count_6 9 h9 (by decide) (by decide) rfl (by decide) ?_
                        refine s_aload_n 0 dX7_count_117 rfl rfl ?_
                        refine s_geti dX7_count_118 ly7 fl_X7_119 kd_328 rfl ?_
                        exact s_iret hX dX7_count_121
                      · refine s_ite1 (fun h10 => ?_) ?_
                        · refine s_tabI (tgt := 122) dX7_count_6 10 h10 (by decide) (by decide) rfl (by decide) ?_
                          refine s_aload_n 0 dX7_count_122 rfl rfl ?_
                          refine s_geti dX7_count_123 ly7 fl_X7_122 kd_328 rfl ?_
                          exact s_iret hX dX7_count_126
                        · refine s_ite1 (fun h11 => ?_) ?_
                          · refine s_tabI (tgt := 127) dX7_count_6 11 h11 (by decide) (by decide) rfl (by decide) ?_
                            refine s_aload_n 0 dX7_count_127 rfl rfl ?_
                            refine s_Vi (rest := []) dX7_count_128 lk_X7_364 meX7_unusedBits (ctX7_unusedBits B fu s1) kd_328 ⟨rfl, by decide⟩ rfl rfl ⟨rfl, rfl, by decide, by decide⟩ (Nat.le_of_ble_eq_true rfl) (fun x5 s6 => ?_)
                            exact s_iret hX dX7_count_131
                          · refine s_ite1 (fun h12 => ?_) ?_
                            · refine s_tabI (tgt := 132) dX7_count_6 12 h12 (by decide) (by decide) rfl (by decide) ?_
                              refine s_aload_n 0 dX7_count_132 rfl rfl ?_
                              refine s_Vi (rest := []) dX7_count_133 lk_X7_367 meX7_costedBits (ctX7_costedBits B fu s1) kd_328 ⟨rfl, by decide⟩ rfl rfl ⟨rfl, rfl, by decide, by decide⟩ (Nat.le_of_ble_eq_true rfl) (fun x6 s7 => ?_)
                              exact s_iret hX dX7_count_136
                            · exact s_none
abbrev rmX7_row : Room := { frames := 1, cells := 0, slots := 0, locals := 25 }
abbrev SX7_row (B : Nat) (X : Ctx) := Sim cX7_row RX7 2 rmX7_row B X
set_option maxHeartbeats 4000000 in
set_option maxRecDepth 100000 in
theorem ctX7_row (B fu : Nat) (a0 : Int) (σ : Mem) : CtL yX7_row cX7_row 2 (some .long) rmX7_row B [rv B 328, iv a0] σ (fX7_row fu a0 σ) := by
  refine ctL_intro (own := RX7) (lv := [(0, rv B 328), (1, iv a0)]) (by decide +kernel) rfl (Nat.le_of_ble_eq_true rfl) rfl (fun X hX => ?_)
  unfold fX7_row
  refine s_aload_n 0 dX7_row_0 rfl rfl ?_
  refine s_iconst dX7_row_1 ?_
  refine s_puti dX7_row_2 ly7 ty7 fl_X7_116 kd_328 rfl po7_20 ⟨rfl, rfl, by decide⟩ (fun s1 => ?_)
  refine s_iload_n 1 dX7_row_5 rfl rfl ?_
  refine s_i2l dX7_row_6 ?_
  refine s_lconst (x := 0) dX7_row_7 (by decide) ?_
  refine s_aload_n 0 dX7_row_8 rfl rfl ?_
  refine s_geti dX7_row_9 ly7 fl_X7_119 kd_328 rfl ?_
  refine s_iconst dX7_row_12 ?_
  refine s_isub dX7_row_13 ?_
  refine s_i2l dX7_row_14 ?_
  refine s_Si (rest := []) dX7_row_15 lk_X7_125 meX7_in (ctX7_in B fu (w32 a0) 0 (w32 ((s1 328 19) - 1)) s1) rfl rfl ⟨rfl, rfl, by decide, by decide⟩ (Nat.le_of_ble_eq_true rfl) (fun x1 s2 => ?_)
  refine s_jn (fun (j1 : Int → Mem → PR) => ∀ (x2 : Int) (s5 : Mem), SX7_row B X (j1 x2 s5) s5 35 [] [jv x2]) ?_ (fun j1 hj1 => ?_)
  · intro x2 s3
    exact s_lret hX dX7_row_35
  · refine s_if_eq (tgt := 30) dX7_row_18 (by decide) ?_ ?_
    · refine s_aload_n 0 dX7_row_30 rfl rfl ?_
      refine s_Vi (rest := []) dX7_row_31 lk_X7_370 meX7_lost (ctX7_lost B fu s2) kd_328 ⟨rfl, by decide⟩ rfl rfl ⟨rfl, rfl, by decide, by decide⟩ (Nat.le_of_ble_eq_true rfl) (fun x3 s4 => ?_)
      refine s_i2l dX7_row_34 ?_
      exact s_sub [] rfl (hj1 (w32 x3) s4)
    · refine s_aload_n 0 dX7_row_21 rfl rfl ?_
      refine s_getr (n := 12) (k' := 341) dX7_row_22 ly7 fl_X7_53 kd_328 rfl rfl rfl ?_
      refine s_iload_n 1 dX7_row_25 rfl rfl ?_
      refine s_lald 32 dX7_row_26 kd_341 (by decide) (fun x4 => ?_)
      refine s_goto (tgt := 35) dX7_row_27 (by decide) ?_
      exact s_sub [] rfl (hj1 x4 s2)
