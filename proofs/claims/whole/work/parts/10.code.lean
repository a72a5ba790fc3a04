abbrev rmX6_parts : Room := { frames := 0, cells := 0, slots := 0, locals := 0 }
abbrev SX6_parts (B : Nat) (X : Ctx) := Sim cX6_parts RX6 4 rmX6_parts B X
set_option maxHeartbeats 4000000 in
set_option maxRecDepth 100000 in
theorem ctX6_parts (B fu : Nat) (a0 : Int) (a1 : Int) (σ : Mem) : CtL yX6_parts cX6_parts 4 (some .long) rmX6_parts B [jv a0, jv a1] σ (fX6_parts fu a0 a1 σ) := by
  refine ctL_intro (own := RX6) (lv := [(0, jv a0), (2, jv a1)]) (by decide +kernel) rfl (Nat.le_of_ble_eq_true rfl) rfl (fun X hX => ?_)
  unfold fX6_parts
  refine s_lload_n 1 dX6_parts_0 rfl rfl ?_
  refine s_lconst (x := 1) dX6_parts_1 (by decide) ?_
  refine s_jn (fun (j1 : Int → Mem → PR) => ∀ (x1 : Int) (s2 : Mem), SX6_parts B X (j1 x1 s2) s2 13 [] [jv x1]) ?_ (fun j1 hj1 => ?_)
  · intro x1 s1
    exact s_lret hX dX6_parts_13
  · refine s_lif_ge (tgt := 10) dX6_parts_2 dX6_parts_3 (by decide) ?_ ?_
    · refine s_lload_n 0 dX6_parts_10 rfl rfl ?_
      refine s_lload_n 1 dX6_parts_11 rfl rfl ?_
      refine s_ldiv dX6_parts_12 ?_
      exact s_sub [] rfl (hj1 (div64 a0 a1) σ)
    · refine s_lconst (x := 0) dX6_parts_6 (by decide) ?_
      refine s_goto (tgt := 13) dX6_parts_7 (by decide) ?_
      exact s_sub [] rfl (hj1 0 σ)
abbrev rmX1_time : Room := { frames := 0, cells := 0, slots := 0, locals := 0 }
abbrev SX1_time (B : Nat) (X : Ctx) := Sim cX1_time RX1 2 rmX1_time B X
set_option maxHeartbeats 4000000 in
set_option maxRecDepth 100000 in
theorem ctX1_time (B fu : Nat) (th : Nat) (hth : kd th = 1) (a0 : Int) (σ : Mem) : CtI yX1_time cX1_time 2 (some .int) rmX1_time B [rv B th, iv a0] σ (fX1_time fu th a0 σ) := by
  refine ctI_intro (own := RX1) (lv := [(0, rv B th), (1, iv a0)]) (by decide +kernel) rfl (Nat.le_of_ble_eq_true rfl) rfl (fun X hX => ?_)
  unfold fX1_time
  refine s_bipush dX1_time_0 (by decide) ?_
  refine s_aload_n 0 dX1_time_2 rfl rfl ?_
  refine s_getr (n := 1) (k' := th + 2) dX1_time_3 ly1 fl_X1_22 hth rfl rfl rfl ?_
  refine s_iload_n 1 dX1_time_6 rfl rfl ?_
  refine s_iald 8 dX1_time_7 (kdL2 hth) (by decide) (fun x1 => ?_)
  refine s_imul dX1_time_8 ?_
  refine s_aload_n 0 dX1_time_9 rfl rfl ?_
  refine s_getr (n := 2) (k' := th + 3) dX1_time_10 ly1 fl_X1_25 hth rfl rfl rfl ?_
  refine s_iload_n 1 dX1_time_13 rfl rfl ?_
  refine s_iald 8 dX1_time_14 (kdL3 hth) (by decide) (fun x2 => ?_)
  refine s_iadd dX1_time_15 ?_
  exact s_iret hX dX1_time_16
abbrev rmX1_timeBetween : Room := { frames := 1, cells := 0, slots := 0, locals := 21 }
abbrev SX1_timeBetween (B : Nat) (X : Ctx) := Sim cX1_timeBetween RX1 5 rmX1_timeBetween B X
set_option maxHeartbeats 4000000 in
set_option maxRecDepth 100000 in
theorem fX1_timeBetween_L5_s {B fu : Nat} {X : Ctx} (hX : CxI .int B X) (p1 : Nat) (hp1 : kd p1 = 1) (c1 : Int) (k26 : Int → Mem → PR) (hk26 : ∀ (x3 : Int) (s4 : Mem), SX1_timeBetween B X (k26 x3 s4) s4 26 [(3, iv x3)] []) : ∀ (n : Nat) (x1 : Int) (x2 : Int) (s3 : Mem), SX1_timeBetween B X (fX1_timeBetween_L5 fu p1 c1 k26 n x1 x2 s3) s3 5 [(0, rv B p1), (2, iv c1), (3, iv x1), (4, iv x2)] [] := by
  intro n
  induction n with
  | zero => intro _ _ _; exact s_none
  | succ n ih =>
    intro x1 x2 s1
    rw [fX1_timeBetween_L5]
    refine s_iload 3 dX1_timeBetween_5 rfl ?_
    refine s_iload_n 1 dX1_timeBetween_7 rfl rfl ?_
    refine s_icmp_ge (tgt := 26) dX1_timeBetween_8 (by decide) ?_ ?_
    · exact s_sub [2] rfl (hk26 x1 s1)
    · refine s_iload_n 2 dX1_timeBetween_11 rfl rfl ?_
      refine s_aload_n 0 dX1_timeBetween_12 rfl rfl ?_
      refine s_iload 3 dX1_timeBetween_13 rfl ?_
      refine s_Vi (rest := [iv x1]) dX1_timeBetween_15 lk_X1_68 meX1_time (ctX1_time B fu p1 hp1 x2 s1) hp1 ⟨rfl, by decide⟩ rfl rfl ⟨rfl, rfl, by decide, by decide⟩ (Nat.le_of_ble_eq_true rfl) (fun x4 s2 => ?_)
      refine s_iadd dX1_timeBetween_18 ?_
      refine s_lti (fun x5 => ?_)
      refine s_istore_n (lv' := [(3, iv x5), (0, rv B p1), (2, iv c1), (4, iv x2)]) dX1_timeBetween_19 rfl (by decide) rfl ?_
      refine s_iinc (lv' := [(4, iv (x2 + 1)), (3, iv x5), (0, rv B p1), (2, iv c1)]) 3 dX1_timeBetween_20 rfl (by decide) rfl ?_
      refine s_goto (tgt := 5) dX1_timeBetween_23 (by decide) ?_
      exact s_sub [2, 3, 1, 0] rfl (ih x5 (x2 + 1) s2)
set_option maxHeartbeats 4000000 in
set_option maxRecDepth 100000 in
theorem ctX1_timeBetween (B fu : Nat) (th : Nat) (hth : kd th = 1) (a0 : Int) (a1 : Int) (σ : Mem) : CtI yX1_timeBetween cX1_timeBetween 5 (some .int) rmX1_timeBetween B [rv B th, iv a0, iv a1] σ (fX1_timeBetween fu th a0 a1 σ) := by
  refine ctI_intro (own := RX1) (lv := [(0, rv B th), (1, iv a0), (2, iv a1)]) (by decide +kernel) rfl (Nat.le_of_ble_eq_true rfl) rfl (fun X hX => ?_)
  unfold fX1_timeBetween
  refine s_iconst dX1_timeBetween_0 ?_
  refine s_istore_n (lv' := [(3, iv 0), (0, rv B th), (1, iv a0), (2, iv a1)]) dX1_timeBetween_1 rfl (by decide) rfl ?_
  refine s_iload_n 2 dX1_timeBetween_2 rfl rfl ?_
  refine s_istore (lv' := [(4, iv a0), (3, iv 0), (0, rv B th), (1, iv a0), (2, iv a1)]) dX1_timeBetween_3 (by decide) rfl ?_
  refine s_sub [2, 4, 1, 0] (lv' := [(0, rv B th), (2, iv a1), (3, iv 0), (4, iv a0)]) rfl ?_
  refine fX1_timeBetween_L5_s hX th hth a1 _ ?_ fu 0 a0 σ
  intro x6 s5
  refine s_iload_n 0 dX1_timeBetween_26 rfl rfl ?_
  exact s_iret hX dX1_timeBetween_27
abbrev rmX1_firstAt : Room := { frames := 2, cells := 0, slots := 0, locals := 45 }
abbrev SX1_firstAt (B : Nat) (X : Ctx) := Sim cX1_firstAt RX1 6 rmX1_firstAt B X
set_option maxHeartbeats 4000000 in
set_option maxRecDepth 100000 in
theorem ctX1_firstAt (B fu : Nat) (th : Nat) (hth : kd th = 1) (a0 : Int) (a1 : Int) (σ : Mem) : CtI yX1_firstAt cX1_firstAt 6 (some .int) rmX1_firstAt B [rv B th, iv a0, iv a1] σ (fX1_firstAt fu th a0 a1 σ) := by
  refine ctI_intro (own := RX1) (lv := [(0, rv B th), (1, iv a0), (2, iv a1)]) (by decide +kernel) rfl (Nat.le_of_ble_eq_true rfl) rfl (fun X hX => ?_)
  unfold fX1_firstAt
  refine s_bipush dX1_firstAt_0 (by decide) ?_
  refine s_aload_n 0 dX1_firstAt_2 rfl rfl ?_
  refine s_geti dX1_firstAt_3 ly1 fl_X1_53 hth rfl ?_
  refine s_imul dX1_firstAt_6 ?_
  refine s_aload_n 0 dX1_firstAt_7 rfl rfl ?_
  refine s_iconst dX1_firstAt_8 ?_
  refine s_iload_n 1 dX1_firstAt_9 rfl rfl ?_
  refine s_Vi (rest := [iv (100 * (σ th 3))]) dX1_firstAt_10 lk_X1_91 meX1_timeBetween (ctX1_timeBetween B fu th hth 0 a0 σ) hth ⟨rfl, by decide⟩ rfl rfl ⟨rfl, rfl, by decide, by decide⟩ (Nat.le_of_ble_eq_true rfl) (fun x1 s1 => ?_)
  refine s_iadd dX1_firstAt_13 ?_
  refine s_lti (fun x2 => ?_)
  refine s_istore_n (lv' := [(3, iv x2), (0, rv B th), (1, iv a0), (2, iv a1)]) dX1_firstAt_14 rfl (by decide) rfl ?_
  refine s_iload_n 3 dX1_firstAt_15 rfl rfl ?_
  refine s_iload_n 0 dX1_firstAt_16 rfl rfl ?_
  refine s_icmp_gt (tgt := 22) dX1_firstAt_17 (by decide) ?_ ?_
  · refine s_iload_n 3 dX1_firstAt_22 rfl rfl ?_
    refine s_iload_n 0 dX1_firstAt_23 rfl rfl ?_
    refine s_isub dX1_firstAt_24 ?_
    refine s_i2l dX1_firstAt_25 ?_
    refine s_aload_n 1 dX1_firstAt_26 rfl rfl ?_
    refine s_geti dX1_firstAt_27 ly1 fl_X1_9 hth rfl ?_
    refine s_i2l dX1_firstAt_30 ?_
    refine s_lmul dX1_firstAt_31 ?_
    refine s_ldc2 (x := 6000) dX1_firstAt_32 cl_X1_95 (by decide) ?_
    refine s_ladd dX1_firstAt_35 ?_
    refine s_lconst (x := 1) dX1_firstAt_36 (by decide) ?_
    refine s_lsub dX1_firstAt_37 ?_
    refine s_ldc2 (x := 6000) dX1_firstAt_38 cl_X1_95 (by decide) ?_
    refine s_Nl (rest := []) dX1_firstAt_41 nk_X1_82 meX6_parts (ctX6_parts B fu ((((w32 (a1 - x2)) * (w32 (s1 th 0))) + 6000) - 1) 6000 s1) rfl rfl ⟨rfl, rfl, by decide, by decide⟩ (Nat.le_of_ble_eq_true rfl) (fun x3 s2 => ?_)
    refine s_lstore (lv' := [(4, jv x3), (3, iv x2), (0, rv B th), (1, iv a0), (2, iv a1)]) dX1_firstAt_44 (by decide) rfl ?_
    refine s_iload_n 1 dX1_firstAt_46 rfl rfl ?_
    refine s_lload 0 dX1_firstAt_47 rfl ?_
    refine s_ldc2 (x := 6000) dX1_firstAt_49 cl_X1_95 (by decide) ?_
    refine s_lmul dX1_firstAt_52 ?_
    refine s_aload_n 2 dX1_firstAt_53 rfl rfl ?_
    refine s_geti dX1_firstAt_54 ly1 fl_X1_9 hth rfl ?_
    refine s_i2l dX1_firstAt_57 ?_
    refine s_Nl (rest := [iv x2]) dX1_firstAt_58 nk_X1_82 meX6_parts (ctX6_parts B fu (x3 * 6000) (w32 (s2 th 0)) s2) rfl rfl ⟨rfl, rfl, by decide, by decide⟩ (Nat.le_of_ble_eq_true rfl) (fun x4 s3 => ?_)
    refine s_l2i dX1_firstAt_61 ?_
    refine s_iadd dX1_firstAt_62 ?_
    exact s_iret hX dX1_firstAt_63
  · refine s_iload_n 0 dX1_firstAt_20 rfl rfl ?_
    exact s_iret hX dX1_firstAt_21
abbrev rmX0_firstOf : Room := { frames := 3, cells := 0, slots := 0, locals := 70 }
abbrev SX0_firstOf (B : Nat) (X : Ctx) := Sim cX0_firstOf RX0 8 rmX0_firstOf B X
set_option maxHeartbeats 4000000 in
set_option maxRecDepth 100000 in
theorem fX0_firstOf_L9_s {B fu : Nat} {X : Ctx} (hX : CxI .int B X) (p1 : Nat) (hp1 : kd p1 = 4) (c1 : Int) (k70 : Int → Mem → PR) (hk70 : ∀ (x4 : Int) (s8 : Mem), SX0_firstOf B X (k70 x4 s8) s8 70 [(4, iv x4)] []) : ∀ (n : Nat) (x1 : Int) (x2 : Int) (x3 : Int) (s7 : Mem), SX0_firstOf B X (fX0_firstOf_L9 fu p1 c1 k70 n x1 x2 x3 s7) s7 9 [(1, rv B 136), (2, rv B p1), (3, iv c1), (4, iv x1), (5, iv x2), (6, iv x3)] [] := by
  intro n
  induction n with
  | zero => intro _ _ _ _; exact s_none
  | succ n ih =>
    intro x1 x2 x3 s1
    rw [fX0_firstOf_L9]
    refine s_iload 5 dX0_firstOf_9 rfl ?_
    refine s_aload_n 1 dX0_firstOf_11 rfl rfl ?_
    refine s_geti dX0_firstOf_12 ly4 fl_X0_61 hp1 rfl ?_
    refine s_icmp_ge (tgt := 70) dX0_firstOf_15 (by decide) ?_ ?_
    · exact s_sub [3] rfl (hk70 x1 s1)
    · refine s_aload_n 0 dX0_firstOf_18 rfl rfl ?_
      refine s_getd dX0_firstOf_19 ly2 fl_X0_34 kd_136 rfl rfl (fun p2 hp2 => ?_)
      refine s_aload_n 1 dX0_firstOf_22 rfl rfl ?_
      refine s_getr (n := 0) (k' := p1 + 1) dX0_firstOf_23 ly4 fl_X0_37 hp1 rfl rfl rfl ?_
      refine s_iload 5 dX0_firstOf_26 rfl ?_
      refine s_iald 12 dX0_firstOf_28 (kdS1 hp1) (by decide) (fun x5 => ?_)
      refine s_aald dX0_firstOf_29 hp2 (fun p3 hp3 => ?_)
      refine s_aload_n 1 dX0_firstOf_30 rfl rfl ?_
      refine s_getr (n := 1) (k' := p1 + 2) dX0_firstOf_31 ly4 fl_X0_40 hp1 rfl rfl rfl ?_
      refine s_iload 5 dX0_firstOf_34 rfl ?_
      refine s_iald 12 dX0_firstOf_36 (kdS2 hp1) (by decide) (fun x6 => ?_)
      refine s_iload_n 2 dX0_firstOf_37 rfl rfl ?_
      refine s_Vi (rest := []) dX0_firstOf_38 lk_X0_49 meX1_firstAt (ctX1_firstAt B fu p3 hp3 x6 c1 s1) hp3 ⟨rfl, by decide⟩ rfl rfl ⟨rfl, rfl, by decide, by decide⟩ (Nat.le_of_ble_eq_true rfl) (fun x7 s2 => ?_)
      refine s_istore (lv' := [(7, iv x7), (1, rv B 136), (2, rv B p1), (3, iv c1), (4, iv x1), (5, iv x2), (6, iv x3)]) dX0_firstOf_41 (by decide) rfl ?_
      refine s_iload 4 dX0_firstOf_43 rfl ?_
      refine s_iconst dX0_firstOf_45 ?_
      refine s_jn (fun (j1 : Int → Int → Mem → PR) => ∀ (x8 : Int) (x9 : Int) (s6 : Mem), SX0_firstOf B X (j1 x8 x9 s6) s6 64 [(1, rv B 136), (2, rv B p1), (3, iv c1), (4, iv x8), (5, iv x9), (6, iv x3)] []) ?_ (fun j1 hj1 => ?_)
      · intro x8 x9 s3
        refine s_iinc (lv' := [(6, iv (x3 + 1)), (1, rv B 136), (2, rv B p1), (3, iv c1), (4, iv x8), (5, iv x9)]) 5 dX0_firstOf_64 rfl (by decide) rfl ?_
        refine s_goto (tgt := 9) dX0_firstOf_67 (by decide) ?_
        exact s_sub [1, 2, 3, 4, 5, 0] rfl (ih x8 x9 (x3 + 1) s3)
      · refine s_jn (fun (j2 : Mem → PR) => ∀ (s5 : Mem), SX0_firstOf B X (j2 s5) s5 56 [(1, rv B 136), (2, rv B p1), (3, iv c1), (6, iv x3), (7, iv x7)] []) ?_ (fun j2 hj2 => ?_)
        · intro s4
          refine s_iload 3 dX0_firstOf_56 rfl ?_
          refine s_istore (lv' := [(4, iv x3), (1, rv B 136), (2, rv B p1), (3, iv c1), (6, iv x3), (7, iv x7)]) dX0_firstOf_58 (by decide) rfl ?_
          refine s_iload 5 dX0_firstOf_60 rfl ?_
          refine s_istore (lv' := [(5, iv x7), (4, iv x3), (1, rv B 136), (2, rv B p1), (3, iv c1), (6, iv x3), (7, iv x7)]) dX0_firstOf_62 (by decide) rfl ?_
          exact s_sub [2, 3, 4, 1, 0, 5] rfl (hj1 x3 x7 s4)
        · refine s_icmp_eq (tgt := 56) dX0_firstOf_46 (by decide) ?_ ?_
          · exact s_sub [1, 2, 3, 6, 0] rfl (hj2 s2)
          · refine s_iload 0 dX0_firstOf_49 rfl ?_
            refine s_iload 5 dX0_firstOf_51 rfl ?_
            refine s_icmp_ge (tgt := 64) dX0_firstOf_53 (by decide) ?_ ?_
            · exact s_sub [1, 2, 3, 4, 5, 6] rfl (hj1 x1 x2 s2)
            · exact s_sub [1, 2, 3, 6, 0] rfl (hj2 s2)
set_option maxHeartbeats 4000000 in
set_option maxRecDepth 100000 in
theorem ctX0_firstOf (B fu : Nat) (a1 : Nat) (ha1 : kd a1 = 4) (a2 : Int) (σ : Mem) : CtI yX0_firstOf cX0_firstOf 8 (some .int) rmX0_firstOf B [rv B 325, rv B 136, rv B a1, iv a2] σ (fX0_firstOf fu a1 a2 σ) := by
  refine ctI_intro (own := RX0) (lv := [(0, rv B 325), (1, rv B 136), (2, rv B a1), (3, iv a2)]) (by decide +kernel) rfl (Nat.le_of_ble_eq_true rfl) rfl (fun X hX => ?_)
  unfold fX0_firstOf
  refine s_iconst dX0_firstOf_0 ?_
  refine s_istore (lv' := [(4, iv (-1)), (0, rv B 325), (1, rv B 136), (2, rv B a1), (3, iv a2)]) dX0_firstOf_1 (by decide) rfl ?_
  refine s_iconst dX0_firstOf_3 ?_
  refine s_istore (lv' := [(5, iv 0), (4, iv (-1)), (0, rv B 325), (1, rv B 136), (2, rv B a1), (3, iv a2)]) dX0_firstOf_4 (by decide) rfl ?_
  refine s_iconst dX0_firstOf_6 ?_
  refine s_istore (lv' := [(6, iv 0), (5, iv 0), (4, iv (-1)), (0, rv B 325), (1, rv B 136), (2, rv B a1), (3, iv a2)]) dX0_firstOf_7 (by decide) rfl ?_
  refine s_sub [4, 5, 6, 2, 1, 0] (lv' := [(1, rv B 136), (2, rv B a1), (3, iv a2), (4, iv (-1)), (5, iv 0), (6, iv 0)]) rfl ?_
  refine fX0_firstOf_L9_s hX a1 ha1 a2 _ ?_ fu (-1) 0 0 σ
  intro x10 s9
  refine s_iload 0 dX0_firstOf_70 rfl ?_
  exact s_iret hX dX0_firstOf_72
abbrev rmX0_keepRide : Room := { frames := 0, cells := 0, slots := 0, locals := 0 }
abbrev SX0_keepRide (B : Nat) (X : Ctx) := Sim cX0_keepRide RX0 3 rmX0_keepRide B X
set_option maxHeartbeats 4000000 in
set_option maxRecDepth 100000 in
theorem ctX0_keepRide (B fu : Nat) (a0 : Int) (a1 : Int) (σ : Mem) : CtV yX0_keepRide cX0_keepRide 3 none rmX0_keepRide B [rv B 325, iv a0, iv a1] σ (fX0_keepRide fu a0 a1 σ) := by
  refine ctV_intro (own := RX0) (lv := [(0, rv B 325), (1, iv a0), (2, iv a1)]) (by decide +kernel) rfl (Nat.le_of_ble_eq_true rfl) rfl (fun X hX => ?_)
  unfold fX0_keepRide
  refine s_aload_n 0 dX0_keepRide_0 rfl rfl ?_
  refine s_geti dX0_keepRide_1 ly0 fl_X0_18 kd_325 rfl ?_
  refine s_bipush dX0_keepRide_4 (by decide) ?_
  refine s_jn (fun (j1 : Mem → PR) => ∀ (s5 : Mem), SX0_keepRide B X (j1 s5) s5 39 [] []) ?_ (fun j1 hj1 => ?_)
  · intro s1
    exact s_vret hX dX0_keepRide_39
  · refine s_icmp_ge (tgt := 39) dX0_keepRide_6 (by decide) ?_ ?_
    · exact s_sub [] rfl (hj1 σ)
    · refine s_aload_n 0 dX0_keepRide_9 rfl rfl ?_
      refine s_getr (n := 0) (k' := 326) dX0_keepRide_10 ly0 fl_X0_9 kd_325 rfl rfl rfl ?_
      refine s_aload_n 0 dX0_keepRide_13 rfl rfl ?_
      refine s_geti dX0_keepRide_14 ly0 fl_X0_18 kd_325 rfl ?_
      refine s_iload_n 1 dX0_keepRide_17 rfl rfl ?_
      refine s_iast 8 dX0_keepRide_18 kd_326 (by decide) (fun s2 => ?_)
      refine s_aload_n 0 dX0_keepRide_19 rfl rfl ?_
      refine s_getr (n := 1) (k' := 327) dX0_keepRide_20 ly0 fl_X0_15 kd_325 rfl rfl rfl ?_
      refine s_aload_n 0 dX0_keepRide_23 rfl rfl ?_
      refine s_geti dX0_keepRide_24 ly0 fl_X0_18 kd_325 rfl ?_
      refine s_iload_n 2 dX0_keepRide_27 rfl rfl ?_
      refine s_iast 8 dX0_keepRide_28 kd_327 (by decide) (fun s3 => ?_)
      refine s_aload_n 0 dX0_keepRide_29 rfl rfl ?_
      refine s_dup dX0_keepRide_30 rfl ?_
      refine s_geti dX0_keepRide_31 ly0 fl_X0_18 kd_325 rfl ?_
      refine s_iconst dX0_keepRide_34 ?_
      refine s_iadd dX0_keepRide_35 ?_
      refine s_puti dX0_keepRide_36 ly0 ty0 fl_X0_18 kd_325 rfl po0_2 ⟨rfl, rfl, by decide⟩ (fun s4 => ?_)
      exact s_sub [] rfl (hj1 s4)
abbrev rmX1_leftFrom : Room := { frames := 0, cells := 0, slots := 0, locals := 0 }
abbrev SX1_leftFrom (B : Nat) (X : Ctx) := Sim cX1_leftFrom RX1 3 rmX1_leftFrom B X
set_option maxHeartbeats 4000000 in
set_option maxRecDepth 100000 in
theorem fX1_leftFrom_L4_s {B fu : Nat} {X : Ctx} (hX : CxI .int B X) (p1 : Nat) (hp1 : kd p1 = 1) (k29 : Mem → PR) (hk29 : ∀ (s3 : Mem), SX1_leftFrom B X (k29 s3) s3 29 [] []) (k21 : Int → Mem → PR) (hk21 : ∀ (x3 : Int) (s4 : Mem), SX1_leftFrom B X (k21 x3 s4) s4 21 [(2, iv x3)] []) : ∀ (n : Nat) (x2 : Int) (s2 : Mem), SX1_leftFrom B X (fX1_leftFrom_L4 fu p1 k29 k21 n x2 s2) s2 4 [(0, rv B p1), (2, iv x2)] [] := by
  intro n
  induction n with
  | zero => intro _ _; exact s_none
  | succ n ih =>
    intro x2 s1
    rw [fX1_leftFrom_L4]
    refine s_iload_n 1 dX1_leftFrom_4 rfl rfl ?_
    refine s_aload_n 0 dX1_leftFrom_5 rfl rfl ?_
    refine s_geti dX1_leftFrom_6 ly1 fl_X1_50 hp1 rfl ?_
    refine s_icmp_ge (tgt := 29) dX1_leftFrom_9 (by decide) ?_ ?_
    · exact s_sub [] rfl (hk29 s1)
    · refine s_aload_n 0 dX1_leftFrom_12 rfl rfl ?_
      refine s_getr (n := 6) (k' := p1 + 7) dX1_leftFrom_13 ly1 fl_X1_37 hp1 rfl rfl rfl ?_
      refine s_iload_n 1 dX1_leftFrom_16 rfl rfl ?_
      refine s_zald 8 dX1_leftFrom_17 (kdL7 hp1) (by decide) (fun x4 => ?_)
      refine s_if_eq (tgt := 23) dX1_leftFrom_18 (by decide) ?_ ?_
      · refine s_iinc (lv' := [(2, iv (x2 + 1)), (0, rv B p1)]) 1 dX1_leftFrom_23 rfl (by decide) rfl ?_
        refine s_goto (tgt := 4) dX1_leftFrom_26 (by decide) ?_
        exact s_sub [1, 0] rfl (ih (x2 + 1) s1)
      · exact s_sub [1] rfl (hk21 x2 s1)
set_option maxHeartbeats 4000000 in
set_option maxRecDepth 100000 in
theorem ctX1_leftFrom (B fu : Nat) (th : Nat) (hth : kd th = 1) (a0 : Int) (σ : Mem) : CtI yX1_leftFrom cX1_leftFrom 3 (some .int) rmX1_leftFrom B [rv B th, iv a0] σ (fX1_leftFrom fu th a0 σ) := by
  refine ctI_intro (own := RX1) (lv := [(0, rv B th), (1, iv a0)]) (by decide +kernel) rfl (Nat.le_of_ble_eq_true rfl) rfl (fun X hX => ?_)
  unfold fX1_leftFrom
  refine s_iload_n 1 dX1_leftFrom_0 rfl rfl ?_
  refine s_iconst dX1_leftFrom_1 ?_
  refine s_iadd dX1_leftFrom_2 ?_
  refine s_lti (fun x1 => ?_)
  refine s_istore_n (lv' := [(2, iv x1), (0, rv B th), (1, iv a0)]) dX1_leftFrom_3 rfl (by decide) rfl ?_
  refine s_sub [1, 0] (lv' := [(0, rv B th), (2, iv x1)]) rfl ?_
  refine fX1_leftFrom_L4_s hX th hth _ ?_ _ ?_ fu x1 σ
  · intro s5
    refine s_iconst dX1_leftFrom_29 ?_
    exact s_iret hX dX1_leftFrom_30
  · intro x5 s6
    refine s_iload_n 0 dX1_leftFrom_21 rfl rfl ?_
    exact s_iret hX dX1_leftFrom_22
abbrev rmX0_takes : Room := { frames := 4, cells := 0, slots := 0, locals := 97 }
abbrev SX0_takes (B : Nat) (X : Ctx) := Sim cX0_takes RX0 12 rmX0_takes B X
set_option maxHeartbeats 4000000 in
set_option maxRecDepth 100000 in
theorem fX0_takes_L14_s {B fu : Nat} {X : Ctx} (hX : CxI .int B X) (c1 : Int) (k171 : Int → Mem → PR) (hk171 : ∀ (x4 : Int) (s11 : Mem), SX0_takes B X (k171 x4 s11) s11 171 [(3, iv c1), (4, iv x4)] []) (k92 : Int → Mem → PR) (hk92 : ∀ (x5 : Int) (s12 : Mem), SX0_takes B X (k92 x5 s12) s12 92 [(3, iv c1), (4, iv x5)] []) : ∀ (n : Nat) (x1 : Int) (x2 : Int) (x3 : Int) (s10 : Mem), SX0_takes B X (fX0_takes_L14 fu c1 k171 k92 n x1 x2 x3 s10) s10 14 [(0, rv B 325), (1, rv B 136), (3, iv c1), (4, iv x1), (5, iv x2), (6, iv x3)] [] := by
  intro n
  induction n with
  | zero => intro _ _ _ _; exact s_none
  | succ n ih =>
    intro x1 x2 x3 s2
    rw [fX0_takes_L14]
    refine s_iload 5 dX0_takes_14 rfl ?_
    refine s_bipush dX0_takes_16 (by decide) ?_
    refine s_icmp_ge (tgt := 171) dX0_takes_18 (by decide) ?_ ?_
    · exact s_sub [2, 3] rfl (hk171 x1 s2)
    · refine s_iload 4 dX0_takes_21 rfl ?_
      refine s_aload_n 1 dX0_takes_23 rfl rfl ?_
      refine s_geti dX0_takes_24 ly2 fl_X0_22 kd_136 rfl ?_
      refine s_icmp_eq (tgt := 171) dX0_takes_27 (by decide) ?_ ?_
      · exact s_sub [2, 3] rfl (hk171 x1 s2)
      · refine s_aload_n 1 dX0_takes_30 rfl rfl ?_
        refine s_getr (n := 133) (k' := 270) dX0_takes_31 ly2 fl_X0_27 kd_136 rfl rfl rfl ?_
        refine s_iload 4 dX0_takes_34 rfl ?_
        refine s_aals dX0_takes_36 (fun p1 hp1 => ?_)
        refine s_astore (lv' := [(7, rv B p1), (0, rv B 325), (1, rv B 136), (3, iv c1), (4, iv x1), (5, iv x2), (6, iv x3)]) dX0_takes_37 (by decide) rfl ?_
        refine s_aload_n 1 dX0_takes_39 rfl rfl ?_
        refine s_aload_n 2 dX0_takes_40 rfl rfl ?_
        refine s_aload 0 dX0_takes_41 rfl ?_
        refine s_iload 4 dX0_takes_43 rfl ?_
        refine s_Vi (rest := []) dX0_takes_45 lk_X0_30 meX0_firstOf (ctX0_firstOf B fu p1 hp1 x1 s2) kd_325 ⟨rfl, by decide⟩ rfl rfl ⟨rfl, rfl, by decide, by decide⟩ (Nat.le_of_ble_eq_true rfl) (fun x6 s3 => ?_)
        refine s_istore (lv' := [(8, iv x6), (7, rv B p1), (0, rv B 325), (1, rv B 136), (3, iv c1), (4, iv x1), (5, iv x2), (6, iv x3)]) dX0_takes_48 (by decide) rfl ?_
        refine s_iload 0 dX0_takes_50 rfl ?_
        refine s_iconst dX0_takes_52 ?_
        refine s_jn (fun (j1 : Int → Mem → PR) => ∀ (x7 : Int) (s9 : Mem), SX0_takes B X (j1 x7 s9) s9 84 [(0, rv B 325), (1, rv B 136), (3, iv c1), (4, iv x1), (6, iv x3), (7, rv B p1), (8, iv x6)] [iv x7]) ?_ (fun j1 hj1 => ?_)
        · intro x7 s4
          refine s_istore (lv' := [(9, iv x7), (0, rv B 325), (1, rv B 136), (3, iv c1), (4, iv x1), (6, iv x3), (7, rv B p1), (8, iv x6)]) dX0_takes_84 (by decide) rfl ?_
          refine s_iload 0 dX0_takes_86 rfl ?_
          refine s_iconst dX0_takes_88 ?_
          refine s_icmp_ne (tgt := 95) dX0_takes_89 (by decide) ?_ ?_
          · refine s_aload_n 2 dX0_takes_95 rfl rfl ?_
            refine s_getd dX0_takes_96 ly2 fl_X0_34 kd_136 rfl rfl (fun p2 hp2 => ?_)
            refine s_aload 6 dX0_takes_99 rfl ?_
            refine s_getr (n := 0) (k' := p1 + 1) dX0_takes_101 ly4 fl_X0_37 hp1 rfl rfl rfl ?_
            refine s_iload 7 dX0_takes_104 rfl ?_
            refine s_iald 12 dX0_takes_106 (kdS1 hp1) (by decide) (fun x8 => ?_)
            refine s_aald dX0_takes_107 hp2 (fun p3 hp3 => ?_)
            refine s_astore (lv' := [(10, rv B p3), (9, iv x7), (0, rv B 325), (1, rv B 136), (3, iv c1), (4, iv x1), (6, iv x3), (7, rv B p1), (8, iv x6)]) dX0_takes_108 (by decide) rfl ?_
            refine s_aload 7 dX0_takes_110 rfl ?_
            refine s_getr (n := 1) (k' := p1 + 2) dX0_takes_112 ly4 fl_X0_40 hp1 rfl rfl rfl ?_
            refine s_iload 8 dX0_takes_115 rfl ?_
            refine s_iald 12 dX0_takes_117 (kdS2 hp1) (by decide) (fun x9 => ?_)
            refine s_istore (lv' := [(11, iv x9), (10, rv B p3), (9, iv x7), (0, rv B 325), (1, rv B 136), (3, iv c1), (4, iv x1), (6, iv x3), (7, rv B p1), (8, iv x6)]) dX0_takes_118 (by decide) rfl ?_
            refine s_aload 1 dX0_takes_120 rfl ?_
            refine s_iload 0 dX0_takes_122 rfl ?_
            refine s_iload 6 dX0_takes_124 rfl ?_
            refine s_Vi (rest := []) dX0_takes_126 lk_X0_49 meX1_firstAt (ctX1_firstAt B fu p3 hp3 x9 x1 s4) hp3 ⟨rfl, by decide⟩ rfl rfl ⟨rfl, rfl, by decide, by decide⟩ (Nat.le_of_ble_eq_true rfl) (fun x10 s5 => ?_)
            refine s_aload 1 dX0_takes_129 rfl ?_
            refine s_iload 0 dX0_takes_131 rfl ?_
            refine s_iload 2 dX0_takes_133 rfl ?_
            refine s_Vi (rest := [iv x10]) dX0_takes_135 lk_X0_53 meX1_timeBetween (ctX1_timeBetween B fu p3 hp3 x9 x7 s5) hp3 ⟨rfl, by decide⟩ rfl rfl ⟨rfl, rfl, by decide, by decide⟩ (Nat.le_of_ble_eq_true rfl) (fun x11 s6 => ?_)
            refine s_iadd dX0_takes_138 ?_
            refine s_lti (fun x12 => ?_)
            refine s_istore (lv' := [(4, iv x12), (11, iv x9), (10, rv B p3), (9, iv x7), (0, rv B 325), (1, rv B 136), (3, iv c1), (6, iv x3), (7, rv B p1), (8, iv x6)]) dX0_takes_139 (by decide) rfl ?_
            refine s_aload 2 dX0_takes_141 rfl ?_
            refine s_getr (n := 0) (k' := p3 + 1) dX0_takes_143 ly1 fl_X0_56 hp3 rfl rfl rfl ?_
            refine s_iload 3 dX0_takes_146 rfl ?_
            refine s_iald 8 dX0_takes_148 (kdL1 hp3) (by decide) (fun x13 => ?_)
            refine s_istore (lv' := [(5, iv x13), (4, iv x12), (11, iv x9), (10, rv B p3), (9, iv x7), (0, rv B 325), (1, rv B 136), (3, iv c1), (6, iv x3), (7, rv B p1), (8, iv x6)]) dX0_takes_149 (by decide) rfl ?_
            refine s_aload_n 5 dX0_takes_151 rfl rfl ?_
            refine s_aload 9 dX0_takes_152 rfl ?_
            refine s_getr (n := 0) (k' := p1 + 1) dX0_takes_154 ly4 fl_X0_37 hp1 rfl rfl rfl ?_
            refine s_iload 10 dX0_takes_157 rfl ?_
            refine s_iald 12 dX0_takes_159 (kdS1 hp1) (by decide) (fun x14 => ?_)
            refine s_iload 0 dX0_takes_160 rfl ?_
            refine s_Vv (rest := []) dX0_takes_162 lk_X0_57 meX0_keepRide (ctX0_keepRide B fu x14 x13 s6) kd_325 ⟨rfl, by decide⟩ rfl rfl ⟨rfl, rfl, by decide, by decide⟩ (Nat.le_of_ble_eq_true rfl) (fun _ s7 => ?_)
            refine s_iinc (lv' := [(6, iv (x3 + 1)), (5, iv x13), (4, iv x12), (11, iv x9), (10, rv B p3), (9, iv x7), (0, rv B 325), (1, rv B 136), (3, iv c1), (7, rv B p1), (8, iv x6)]) 8 dX0_takes_165 rfl (by decide) rfl ?_
            refine s_goto (tgt := 14) dX0_takes_168 (by decide) ?_
            exact s_sub [6, 7, 8, 2, 1, 0] rfl (ih x12 x13 (x3 + 1) s7)
          · exact s_sub [3, 4] rfl (hk92 x1 s4)
        · refine s_icmp_ne (tgt := 60) dX0_takes_53 (by decide) ?_ ?_
          · refine s_aload_n 3 dX0_takes_60 rfl rfl ?_
            refine s_getd dX0_takes_61 ly2 fl_X0_34 kd_136 rfl rfl (fun p4 hp4 => ?_)
            refine s_aload 1 dX0_takes_64 rfl ?_
            refine s_getr (n := 0) (k' := p1 + 1) dX0_takes_66 ly4 fl_X0_37 hp1 rfl rfl rfl ?_
            refine s_iload 0 dX0_takes_69 rfl ?_
            refine s_iald 12 dX0_takes_71 (kdS1 hp1) (by decide) (fun x15 => ?_)
            refine s_aald dX0_takes_72 hp4 (fun p5 hp5 => ?_)
            refine s_aload 1 dX0_takes_73 rfl ?_
            refine s_getr (n := 1) (k' := p1 + 2) dX0_takes_75 ly4 fl_X0_40 hp1 rfl rfl rfl ?_
            refine s_iload 0 dX0_takes_78 rfl ?_
            refine s_iald 12 dX0_takes_80 (kdS2 hp1) (by decide) (fun x16 => ?_)
            refine s_Vi (rest := []) dX0_takes_81 lk_X0_43 meX1_leftFrom (ctX1_leftFrom B fu p5 hp5 x16 s3) hp5 ⟨rfl, by decide⟩ rfl rfl ⟨rfl, rfl, by decide, by decide⟩ (Nat.le_of_ble_eq_true rfl) (fun x17 s8 => ?_)
            exact s_sub [2, 3, 4, 5, 7, 1, 0] rfl (hj1 x17 s8)
          · refine s_iconst dX0_takes_56 ?_
            refine s_goto (tgt := 84) dX0_takes_57 (by decide) ?_
            exact s_sub [2, 3, 4, 5, 7, 1, 0] rfl (hj1 (-1) s3)
set_option maxHeartbeats 4000000 in
set_option maxRecDepth 100000 in
theorem ctX0_takes (B fu : Nat) (a1 : Int) (a2 : Int) (σ : Mem) : CtI yX0_takes cX0_takes 12 (some .int) rmX0_takes B [rv B 325, rv B 136, iv a1, iv a2] σ (fX0_takes fu a1 a2 σ) := by
  refine ctI_intro (own := RX0) (lv := [(0, rv B 325), (1, rv B 136), (2, iv a1), (3, iv a2)]) (by decide +kernel) rfl (Nat.le_of_ble_eq_true rfl) rfl (fun X hX => ?_)
  unfold fX0_takes
  refine s_aload_n 0 dX0_takes_0 rfl rfl ?_
  refine s_iconst dX0_takes_1 ?_
  refine s_puti dX0_takes_2 ly0 ty0 fl_X0_18 kd_325 rfl po0_2 ⟨rfl, rfl, by decide⟩ (fun s1 => ?_)
  refine s_iload_n 3 dX0_takes_5 rfl rfl ?_
  refine s_istore (lv' := [(4, iv a2), (0, rv B 325), (1, rv B 136), (2, iv a1), (3, iv a2)]) dX0_takes_6 (by decide) rfl ?_
  refine s_iload_n 3 dX0_takes_8 rfl rfl ?_
  refine s_istore (lv' := [(5, iv a1), (4, iv a2), (0, rv B 325), (1, rv B 136), (2, iv a1), (3, iv a2)]) dX0_takes_9 (by decide) rfl ?_
  refine s_iconst dX0_takes_11 ?_
  refine s_istore (lv' := [(6, iv 0), (5, iv a1), (4, iv a2), (0, rv B 325), (1, rv B 136), (2, iv a1), (3, iv a2)]) dX0_takes_12 (by decide) rfl ?_
  refine s_jn (fun (j2 : Int → Mem → PR) => ∀ (x18 : Int) (s16 : Mem), SX0_takes B X (j2 x18 s16) s16 171 [(3, iv a2), (4, iv x18)] []) ?_ (fun j2 hj2 => ?_)
  · intro x18 s13
    refine s_iload 1 dX0_takes_171 rfl ?_
    refine s_iload_n 0 dX0_takes_173 rfl rfl ?_
    refine s_isub dX0_takes_174 ?_
    exact s_iret hX dX0_takes_175
  · refine s_sub [3, 4, 6, 2, 1, 0] (lv' := [(0, rv B 325), (1, rv B 136), (3, iv a2), (4, iv a2), (5, iv a1), (6, iv 0)]) rfl ?_
    refine fX0_takes_L14_s hX a2 _ ?_ _ ?_ fu a2 a1 0 s1
    · intro x19 s14
      exact hj2 x19 s14
    · intro x20 s15
      refine s_goto (tgt := 171) dX0_takes_92 (by decide) ?_
      exact hj2 x20 s15
abbrev rmX1_renew : Room := { frames := 0, cells := 0, slots := 0, locals := 0 }
abbrev SX1_renew (B : Nat) (X : Ctx) := Sim cX1_renew RX1 2 rmX1_renew B X
set_option maxHeartbeats 4000000 in
set_option maxRecDepth 100000 in
theorem ctX1_renew (B fu : Nat) (th : Nat) (hth : kd th = 1) (a0 : Int) (σ : Mem) : CtV yX1_renew cX1_renew 2 none rmX1_renew B [rv B th, iv a0] σ (fX1_renew fu th a0 σ) := by
  refine ctV_intro (own := RX1) (lv := [(0, rv B th), (1, iv a0)]) (by decide +kernel) rfl (Nat.le_of_ble_eq_true rfl) rfl (fun X hX => ?_)
  unfold fX1_renew
  refine s_aload_n 0 dX1_renew_0 rfl rfl ?_
  refine s_iload_n 1 dX1_renew_1 rfl rfl ?_
  refine s_puti dX1_renew_2 ly1 ty1 fl_X1_9 hth rfl po1_0 ⟨rfl, rfl, by decide⟩ (fun s1 => ?_)
  refine s_aload_n 0 dX1_renew_5 rfl rfl ?_
  refine s_iconst dX1_renew_6 ?_
  refine s_puti dX1_renew_7 ly1 ty1 fl_X1_50 hth rfl po1_1 ⟨rfl, rfl, by decide⟩ (fun s2 => ?_)
  refine s_aload_n 0 dX1_renew_10 rfl rfl ?_
  refine s_bipush dX1_renew_11 (by decide) ?_
  refine s_puti dX1_renew_13 ly1 ty1 fl_X1_15 hth rfl po1_2 ⟨rfl, rfl, by decide⟩ (fun s3 => ?_)
  refine s_aload_n 0 dX1_renew_16 rfl rfl ?_
  refine s_iconst dX1_renew_17 ?_
  refine s_puti dX1_renew_18 ly1 ty1 fl_X1_53 hth rfl po1_3 ⟨rfl, rfl, by decide⟩ (fun s4 => ?_)
  refine s_aload_n 0 dX1_renew_21 rfl rfl ?_
  refine s_iconst dX1_renew_22 ?_
  refine s_putz dX1_renew_23 ly1 ty1 fl_X1_56 hth rfl po1_4 ⟨rfl, rfl, by decide⟩ (fun s5 => ?_)
  exact s_vret hX dX1_renew_26
abbrev rmX1_lead : Room := { frames := 0, cells := 0, slots := 0, locals := 0 }
abbrev SX1_lead (B : Nat) (X : Ctx) := Sim cX1_lead RX1 3 rmX1_lead B X
set_option maxHeartbeats 4000000 in
set_option maxRecDepth 100000 in
theorem ctX1_lead (B fu : Nat) (th : Nat) (hth : kd th = 1) (a0 : Int) (a1 : Int) (σ : Mem) : CtV yX1_lead cX1_lead 3 none rmX1_lead B [rv B th, iv a0, iv a1] σ (fX1_lead fu th a0 a1 σ) := by
  refine ctV_intro (own := RX1) (lv := [(0, rv B th), (1, iv a0), (2, iv a1)]) (by decide +kernel) rfl (Nat.le_of_ble_eq_true rfl) rfl (fun X hX => ?_)
  unfold fX1_lead
  refine s_aload_n 0 dX1_lead_0 rfl rfl ?_
  refine s_geti dX1_lead_1 ly1 fl_X1_50 hth rfl ?_
  refine s_bipush dX1_lead_4 (by decide) ?_
  refine s_icmp_lt (tgt := 10) dX1_lead_6 (by decide) ?_ ?_
  · refine s_aload_n 0 dX1_lead_10 rfl rfl ?_
    refine s_geti dX1_lead_11 ly1 fl_X1_50 hth rfl ?_
    refine s_jn (fun (j1 : Mem → PR) => ∀ (s7 : Mem), SX1_lead B X (j1 s7) s7 53 [(0, rv B th), (2, iv a1)] []) ?_ (fun j1 hj1 => ?_)
    · intro s1
      refine s_aload_n 0 dX1_lead_53 rfl rfl ?_
      refine s_getr (n := 0) (k' := th + 1) dX1_lead_54 ly1 fl_X1_18 hth rfl rfl rfl ?_
      refine s_aload_n 0 dX1_lead_57 rfl rfl ?_
      refine s_geti dX1_lead_58 ly1 fl_X1_50 hth rfl ?_
      refine s_iload_n 1 dX1_lead_61 rfl rfl ?_
      refine s_iast 8 dX1_lead_62 (kdL1 hth) (by decide) (fun s2 => ?_)
      refine s_aload_n 0 dX1_lead_63 rfl rfl ?_
      refine s_dup dX1_lead_64 rfl ?_
      refine s_geti dX1_lead_65 ly1 fl_X1_50 hth rfl ?_
      refine s_iconst dX1_lead_68 ?_
      refine s_iadd dX1_lead_69 ?_
      refine s_puti dX1_lead_70 ly1 ty1 fl_X1_50 hth rfl po1_1 ⟨rfl, rfl, by decide⟩ (fun s3 => ?_)
      exact s_vret hX dX1_lead_73
    · refine s_if_le (tgt := 53) dX1_lead_14 (by decide) ?_ ?_
      · exact s_sub [0, 2] rfl (hj1 σ)
      · refine s_aload_n 0 dX1_lead_17 rfl rfl ?_
        refine s_getr (n := 1) (k' := th + 2) dX1_lead_18 ly1 fl_X1_22 hth rfl rfl rfl ?_
        refine s_aload_n 0 dX1_lead_21 rfl rfl ?_
        refine s_geti dX1_lead_22 ly1 fl_X1_50 hth rfl ?_
        refine s_iconst dX1_lead_25 ?_
        refine s_isub dX1_lead_26 ?_
        refine s_iload_n 1 dX1_lead_27 rfl rfl ?_
        refine s_iast 8 dX1_lead_28 (kdL2 hth) (by decide) (fun s4 => ?_)
        refine s_aload_n 0 dX1_lead_29 rfl rfl ?_
        refine s_getr (n := 2) (k' := th + 3) dX1_lead_30 ly1 fl_X1_25 hth rfl rfl rfl ?_
        refine s_aload_n 0 dX1_lead_33 rfl rfl ?_
        refine s_geti dX1_lead_34 ly1 fl_X1_50 hth rfl ?_
        refine s_iconst dX1_lead_37 ?_
        refine s_isub dX1_lead_38 ?_
        refine s_iconst dX1_lead_39 ?_
        refine s_iast 8 dX1_lead_40 (kdL3 hth) (by decide) (fun s5 => ?_)
        refine s_aload_n 0 dX1_lead_41 rfl rfl ?_
        refine s_getr (n := 3) (k' := th + 4) dX1_lead_42 ly1 fl_X1_28 hth rfl rfl rfl ?_
        refine s_aload_n 0 dX1_lead_45 rfl rfl ?_
        refine s_geti dX1_lead_46 ly1 fl_X1_50 hth rfl ?_
        refine s_iconst dX1_lead_49 ?_
        refine s_isub dX1_lead_50 ?_
        refine s_iconst dX1_lead_51 ?_
        refine s_iast 8 dX1_lead_52 (kdL4 hth) (by decide) (fun s6 => ?_)
        exact s_sub [0, 2] rfl (hj1 s6)
  · exact s_vret hX dX1_lead_9
abbrev rmX1_becomeReturnOf : Room := { frames := 1, cells := 0, slots := 0, locals := 22 }
abbrev SX1_becomeReturnOf (B : Nat) (X : Ctx) := Sim cX1_becomeReturnOf RX1 3 rmX1_becomeReturnOf B X
set_option maxHeartbeats 4000000 in
set_option maxRecDepth 100000 in
theorem fX1_becomeReturnOf_L15_s {B fu : Nat} {X : Ctx} (hX : CxV B X) (p1 : Nat) (hp1 : kd p1 = 1) (p2 : Nat) (hp2 : kd p2 = 1) (k41 : Mem → PR) (hk41 : ∀ (s5 : Mem), SX1_becomeReturnOf B X (k41 s5) s5 41 [] []) : ∀ (n : Nat) (x2 : Int) (s4 : Mem), SX1_becomeReturnOf B X (fX1_becomeReturnOf_L15 fu p1 p2 k41 n x2 s4) s4 15 [(0, rv B p1), (1, rv B p2), (2, iv x2)] [] := by
  intro n
  induction n with
  | zero => intro _ _; exact s_none
  | succ n ih =>
    intro x2 s2
    rw [fX1_becomeReturnOf_L15]
    refine s_iload_n 2 dX1_becomeReturnOf_15 rfl rfl ?_
    refine s_if_lt (tgt := 41) dX1_becomeReturnOf_16 (by decide) ?_ ?_
    · exact s_sub [] rfl (hk41 s2)
    · refine s_aload_n 0 dX1_becomeReturnOf_19 rfl rfl ?_
      refine s_aload_n 1 dX1_becomeReturnOf_20 rfl rfl ?_
      refine s_getr (n := 1) (k' := p2 + 2) dX1_becomeReturnOf_21 ly1 fl_X1_22 hp2 rfl rfl rfl ?_
      refine s_iload_n 2 dX1_becomeReturnOf_24 rfl rfl ?_
      refine s_iald 8 dX1_becomeReturnOf_25 (kdL2 hp2) (by decide) (fun x3 => ?_)
      refine s_aload_n 1 dX1_becomeReturnOf_26 rfl rfl ?_
      refine s_getr (n := 0) (k' := p2 + 1) dX1_becomeReturnOf_27 ly1 fl_X1_18 hp2 rfl rfl rfl ?_
      refine s_iload_n 2 dX1_becomeReturnOf_30 rfl rfl ?_
      refine s_iald 8 dX1_becomeReturnOf_31 (kdL1 hp2) (by decide) (fun x4 => ?_)
      refine s_Vv (rest := []) dX1_becomeReturnOf_32 lk_X1_64 meX1_lead (ctX1_lead B fu p1 hp1 x3 x4 s2) hp1 ⟨rfl, by decide⟩ rfl rfl ⟨rfl, rfl, by decide, by decide⟩ (Nat.le_of_ble_eq_true rfl) (fun _ s3 => ?_)
      refine s_iinc (lv' := [(2, iv (x2 + (-1))), (0, rv B p1), (1, rv B p2)]) 2 dX1_becomeReturnOf_35 rfl (by decide) rfl ?_
      refine s_goto (tgt := 15) dX1_becomeReturnOf_38 (by decide) ?_
      exact s_sub [1, 2, 0] rfl (ih (x2 + (-1)) s3)
set_option maxHeartbeats 4000000 in
set_option maxRecDepth 100000 in
theorem ctX1_becomeReturnOf (B fu : Nat) (th : Nat) (hth : kd th = 1) (a0 : Nat) (ha0 : kd a0 = 1) (σ : Mem) : CtV yX1_becomeReturnOf cX1_becomeReturnOf 3 none rmX1_becomeReturnOf B [rv B th, rv B a0] σ (fX1_becomeReturnOf fu th a0 σ) := by
  refine ctV_intro (own := RX1) (lv := [(0, rv B th), (1, rv B a0)]) (by decide +kernel) rfl (Nat.le_of_ble_eq_true rfl) rfl (fun X hX => ?_)
  unfold fX1_becomeReturnOf
  refine s_aload_n 0 dX1_becomeReturnOf_0 rfl rfl ?_
  refine s_aload_n 1 dX1_becomeReturnOf_1 rfl rfl ?_
  refine s_geti dX1_becomeReturnOf_2 ly1 fl_X1_9 ha0 rfl ?_
  refine s_Vv (rest := []) dX1_becomeReturnOf_5 lk_X1_60 meX1_renew (ctX1_renew B fu th hth (σ a0 0) σ) hth ⟨rfl, by decide⟩ rfl rfl ⟨rfl, rfl, by decide, by decide⟩ (Nat.le_of_ble_eq_true rfl) (fun _ s1 => ?_)
  refine s_aload_n 1 dX1_becomeReturnOf_8 rfl rfl ?_
  refine s_geti dX1_becomeReturnOf_9 ly1 fl_X1_50 ha0 rfl ?_
  refine s_iconst dX1_becomeReturnOf_12 ?_
  refine s_isub dX1_becomeReturnOf_13 ?_
  refine s_lti (fun x1 => ?_)
  refine s_istore_n (lv' := [(2, iv x1), (0, rv B th), (1, rv B a0)]) dX1_becomeReturnOf_14 rfl (by decide) rfl ?_
  refine s_sub [1, 2, 0] (lv' := [(0, rv B th), (1, rv B a0), (2, iv x1)]) rfl ?_
  refine fX1_becomeReturnOf_L15_s hX th hth a0 ha0 _ ?_ fu x1 s1
  intro s6
  exact s_vret hX dX1_becomeReturnOf_41
abbrev rmX1_copyWay : Room := { frames := 0, cells := 0, slots := 0, locals := 0 }
abbrev SX1_copyWay (B : Nat) (X : Ctx) := Sim cX1_copyWay RX1 3 rmX1_copyWay B X
set_option maxHeartbeats 4000000 in
set_option maxRecDepth 100000 in
theorem fX1_copyWay_L10_s {B fu : Nat} {X : Ctx} (hX : CxV B X) (p1 : Nat) (hp1 : kd p1 = 1) (p2 : Nat) (hp2 : kd p2 = 1) (k58 : Mem → PR) (hk58 : ∀ (s7 : Mem), SX1_copyWay B X (k58 s7) s7 58 [] []) : ∀ (n : Nat) (x1 : Int) (s6 : Mem), SX1_copyWay B X (fX1_copyWay_L10 fu p1 p2 k58 n x1 s6) s6 10 [(0, rv B p1), (1, rv B p2), (2, iv x1)] [] := by
  intro n
  induction n with
  | zero => intro _ _; exact s_none
  | succ n ih =>
    intro x1 s2
    rw [fX1_copyWay_L10]
    refine s_iload_n 2 dX1_copyWay_10 rfl rfl ?_
    refine s_bipush dX1_copyWay_11 (by decide) ?_
    refine s_icmp_ge (tgt := 58) dX1_copyWay_13 (by decide) ?_ ?_
    · exact s_sub [] rfl (hk58 s2)
    · refine s_aload_n 0 dX1_copyWay_16 rfl rfl ?_
      refine s_getr (n := 0) (k' := p1 + 1) dX1_copyWay_17 ly1 fl_X1_18 hp1 rfl rfl rfl ?_
      refine s_iload_n 2 dX1_copyWay_20 rfl rfl ?_
      refine s_aload_n 1 dX1_copyWay_21 rfl rfl ?_
      refine s_getr (n := 0) (k' := p2 + 1) dX1_copyWay_22 ly1 fl_X1_18 hp2 rfl rfl rfl ?_
      refine s_iload_n 2 dX1_copyWay_25 rfl rfl ?_
      refine s_iald 8 dX1_copyWay_26 (kdL1 hp2) (by decide) (fun x2 => ?_)
      refine s_iast 8 dX1_copyWay_27 (kdL1 hp1) (by decide) (fun s3 => ?_)
      refine s_aload_n 0 dX1_copyWay_28 rfl rfl ?_
      refine s_getr (n := 1) (k' := p1 + 2) dX1_copyWay_29 ly1 fl_X1_22 hp1 rfl rfl rfl ?_
      refine s_iload_n 2 dX1_copyWay_32 rfl rfl ?_
      refine s_aload_n 1 dX1_copyWay_33 rfl rfl ?_
      refine s_getr (n := 1) (k' := p2 + 2) dX1_copyWay_34 ly1 fl_X1_22 hp2 rfl rfl rfl ?_
      refine s_iload_n 2 dX1_copyWay_37 rfl rfl ?_
      refine s_iald 8 dX1_copyWay_38 (kdL2 hp2) (by decide) (fun x3 => ?_)
      refine s_iast 8 dX1_copyWay_39 (kdL2 hp1) (by decide) (fun s4 => ?_)
      refine s_aload_n 0 dX1_copyWay_40 rfl rfl ?_
      refine s_getr (n := 2) (k' := p1 + 3) dX1_copyWay_41 ly1 fl_X1_25 hp1 rfl rfl rfl ?_
      refine s_iload_n 2 dX1_copyWay_44 rfl rfl ?_
      refine s_aload_n 1 dX1_copyWay_45 rfl rfl ?_
      refine s_getr (n := 2) (k' := p2 + 3) dX1_copyWay_46 ly1 fl_X1_25 hp2 rfl rfl rfl ?_
      refine s_iload_n 2 dX1_copyWay_49 rfl rfl ?_
      refine s_iald 8 dX1_copyWay_50 (kdL3 hp2) (by decide) (fun x4 => ?_)
      refine s_iast 8 dX1_copyWay_51 (kdL3 hp1) (by decide) (fun s5 => ?_)
      refine s_iinc (lv' := [(2, iv (x1 + 1)), (0, rv B p1), (1, rv B p2)]) 2 dX1_copyWay_52 rfl (by decide) rfl ?_
      refine s_goto (tgt := 10) dX1_copyWay_55 (by decide) ?_
      exact s_sub [1, 2, 0] rfl (ih (x1 + 1) s5)
set_option maxHeartbeats 4000000 in
set_option maxRecDepth 100000 in
theorem ctX1_copyWay (B fu : Nat) (th : Nat) (hth : kd th = 1) (a0 : Nat) (ha0 : kd a0 = 1) (σ : Mem) : CtV yX1_copyWay cX1_copyWay 3 none rmX1_copyWay B [rv B th, rv B a0] σ (fX1_copyWay fu th a0 σ) := by
  refine ctV_intro (own := RX1) (lv := [(0, rv B th), (1, rv B a0)]) (by decide +kernel) rfl (Nat.le_of_ble_eq_true rfl) rfl (fun X hX => ?_)
  unfold fX1_copyWay
  refine s_aload_n 0 dX1_copyWay_0 rfl rfl ?_
  refine s_aload_n 1 dX1_copyWay_1 rfl rfl ?_
  refine s_geti dX1_copyWay_2 ly1 fl_X1_50 ha0 rfl ?_
  refine s_puti dX1_copyWay_5 ly1 ty1 fl_X1_50 hth rfl po1_1 ⟨rfl, rfl, by decide⟩ (fun s1 => ?_)
  refine s_iconst dX1_copyWay_8 ?_
  refine s_istore_n (lv' := [(2, iv 0), (0, rv B th), (1, rv B a0)]) dX1_copyWay_9 rfl (by decide) rfl ?_
  refine s_sub [1, 2, 0] (lv' := [(0, rv B th), (1, rv B a0), (2, iv 0)]) rfl ?_
  refine fX1_copyWay_L10_s hX th hth a0 ha0 _ ?_ fu 0 s1
  intro s8
  exact s_vret hX dX1_copyWay_58
abbrev rmX1_omit : Room := { frames := 0, cells := 0, slots := 0, locals := 0 }
abbrev SX1_omit (B : Nat) (X : Ctx) := Sim cX1_omit RX1 3 rmX1_omit B X
set_option maxHeartbeats 4000000 in
set_option maxRecDepth 100000 in
theorem fX1_omit_L52_s {B fu : Nat} {X : Ctx} (hX : CxV B X) (p1 : Nat) (hp1 : kd p1 = 1) (k110 : Mem → PR) (hk110 : ∀ (s9 : Mem), SX1_omit B X (k110 s9) s9 110 [(0, rv B p1)] []) : ∀ (n : Nat) (x5 : Int) (s8 : Mem), SX1_omit B X (fX1_omit_L52 fu p1 k110 n x5 s8) s8 52 [(0, rv B p1), (2, iv x5)] [] := by
  intro n
  induction n with
  | zero => intro _ _; exact s_none
  | succ n ih =>
    intro x5 s4
    rw [fX1_omit_L52]
    refine s_iload_n 1 dX1_omit_52 rfl rfl ?_
    refine s_iconst dX1_omit_53 ?_
    refine s_iadd dX1_omit_54 ?_
    refine s_aload_n 0 dX1_omit_55 rfl rfl ?_
    refine s_geti dX1_omit_56 ly1 fl_X1_50 hp1 rfl ?_
    refine s_icmp_ge (tgt := 110) dX1_omit_59 (by decide) ?_ ?_
    · exact s_sub [0] rfl (hk110 s4)
    · refine s_aload_n 0 dX1_omit_62 rfl rfl ?_
      refine s_getr (n := 0) (k' := p1 + 1) dX1_omit_63 ly1 fl_X1_18 hp1 rfl rfl rfl ?_
      refine s_iload_n 1 dX1_omit_66 rfl rfl ?_
      refine s_aload_n 0 dX1_omit_67 rfl rfl ?_
      refine s_getr (n := 0) (k' := p1 + 1) dX1_omit_68 ly1 fl_X1_18 hp1 rfl rfl rfl ?_
      refine s_iload_n 1 dX1_omit_71 rfl rfl ?_
      refine s_iconst dX1_omit_72 ?_
      refine s_iadd dX1_omit_73 ?_
      refine s_iald 8 dX1_omit_74 (kdL1 hp1) (by decide) (fun x6 => ?_)
      refine s_iast 8 dX1_omit_75 (kdL1 hp1) (by decide) (fun s5 => ?_)
      refine s_aload_n 0 dX1_omit_76 rfl rfl ?_
      refine s_getr (n := 1) (k' := p1 + 2) dX1_omit_77 ly1 fl_X1_22 hp1 rfl rfl rfl ?_
      refine s_iload_n 1 dX1_omit_80 rfl rfl ?_
      refine s_aload_n 0 dX1_omit_81 rfl rfl ?_
      refine s_getr (n := 1) (k' := p1 + 2) dX1_omit_82 ly1 fl_X1_22 hp1 rfl rfl rfl ?_
      refine s_iload_n 1 dX1_omit_85 rfl rfl ?_
      refine s_iconst dX1_omit_86 ?_
      refine s_iadd dX1_omit_87 ?_
      refine s_iald 8 dX1_omit_88 (kdL2 hp1) (by decide) (fun x7 => ?_)
      refine s_iast 8 dX1_omit_89 (kdL2 hp1) (by decide) (fun s6 => ?_)
      refine s_aload_n 0 dX1_omit_90 rfl rfl ?_
      refine s_getr (n := 2) (k' := p1 + 3) dX1_omit_91 ly1 fl_X1_25 hp1 rfl rfl rfl ?_
      refine s_iload_n 1 dX1_omit_94 rfl rfl ?_
      refine s_aload_n 0 dX1_omit_95 rfl rfl ?_
      refine s_getr (n := 2) (k' := p1 + 3) dX1_omit_96 ly1 fl_X1_25 hp1 rfl rfl rfl ?_
      refine s_iload_n 1 dX1_omit_99 rfl rfl ?_
      refine s_iconst dX1_omit_100 ?_
      refine s_iadd dX1_omit_101 ?_
      refine s_iald 8 dX1_omit_102 (kdL3 hp1) (by decide) (fun x8 => ?_)
      refine s_iast 8 dX1_omit_103 (kdL3 hp1) (by decide) (fun s7 => ?_)
      refine s_iinc (lv' := [(2, iv (x5 + 1)), (0, rv B p1)]) 1 dX1_omit_104 rfl (by decide) rfl ?_
      refine s_goto (tgt := 52) dX1_omit_107 (by decide) ?_
      exact s_sub [1, 0] rfl (ih (x5 + 1) s7)
set_option maxHeartbeats 4000000 in
set_option maxRecDepth 100000 in
theorem ctX1_omit (B fu : Nat) (th : Nat) (hth : kd th = 1) (a0 : Int) (σ : Mem) : CtV yX1_omit cX1_omit 3 none rmX1_omit B [rv B th, iv a0] σ (fX1_omit fu th a0 σ) := by
  refine ctV_intro (own := RX1) (lv := [(0, rv B th), (1, iv a0)]) (by decide +kernel) rfl (Nat.le_of_ble_eq_true rfl) rfl (fun X hX => ?_)
  unfold fX1_omit
  refine s_iload_n 1 dX1_omit_0 rfl rfl ?_
  refine s_iconst dX1_omit_1 ?_
  refine s_jn (fun (j1 : Mem → PR) => ∀ (s12 : Mem), SX1_omit B X (j1 s12) s12 15 [] []) ?_ (fun j1 hj1 => ?_)
  · intro s1
    exact s_vret hX dX1_omit_15
  · refine s_icmp_lt (tgt := 15) dX1_omit_2 (by decide) ?_ ?_
    · exact s_sub [] rfl (hj1 σ)
    · refine s_iload_n 1 dX1_omit_5 rfl rfl ?_
      refine s_aload_n 0 dX1_omit_6 rfl rfl ?_
      refine s_geti dX1_omit_7 ly1 fl_X1_50 hth rfl ?_
      refine s_iconst dX1_omit_10 ?_
      refine s_isub dX1_omit_11 ?_
      refine s_icmp_lt (tgt := 16) dX1_omit_12 (by decide) ?_ ?_
      · refine s_aload_n 0 dX1_omit_16 rfl rfl ?_
        refine s_getr (n := 1) (k' := th + 2) dX1_omit_17 ly1 fl_X1_22 hth rfl rfl rfl ?_
        refine s_iload_n 1 dX1_omit_20 rfl rfl ?_
        refine s_iconst dX1_omit_21 ?_
        refine s_isub dX1_omit_22 ?_
        refine s_dup2 dX1_omit_23 rfl rfl ?_
        refine s_iald 8 dX1_omit_24 (kdL2 hth) (by decide) (fun x1 => ?_)
        refine s_aload_n 0 dX1_omit_25 rfl rfl ?_
        refine s_getr (n := 1) (k' := th + 2) dX1_omit_26 ly1 fl_X1_22 hth rfl rfl rfl ?_
        refine s_iload_n 1 dX1_omit_29 rfl rfl ?_
        refine s_iald 8 dX1_omit_30 (kdL2 hth) (by decide) (fun x2 => ?_)
        refine s_iadd dX1_omit_31 ?_
        refine s_iast 8 dX1_omit_32 (kdL2 hth) (by decide) (fun s2 => ?_)
        refine s_aload_n 0 dX1_omit_33 rfl rfl ?_
        refine s_getr (n := 2) (k' := th + 3) dX1_omit_34 ly1 fl_X1_25 hth rfl rfl rfl ?_
        refine s_iload_n 1 dX1_omit_37 rfl rfl ?_
        refine s_iconst dX1_omit_38 ?_
        refine s_isub dX1_omit_39 ?_
        refine s_dup2 dX1_omit_40 rfl rfl ?_
        refine s_iald 8 dX1_omit_41 (kdL3 hth) (by decide) (fun x3 => ?_)
        refine s_aload_n 0 dX1_omit_42 rfl rfl ?_
        refine s_getr (n := 2) (k' := th + 3) dX1_omit_43 ly1 fl_X1_25 hth rfl rfl rfl ?_
        refine s_iload_n 1 dX1_omit_46 rfl rfl ?_
        refine s_iald 8 dX1_omit_47 (kdL3 hth) (by decide) (fun x4 => ?_)
        refine s_iadd dX1_omit_48 ?_
        refine s_iast 8 dX1_omit_49 (kdL3 hth) (by decide) (fun s3 => ?_)
        refine s_iload_n 1 dX1_omit_50 rfl rfl ?_
        refine s_istore_n (lv' := [(2, iv a0), (0, rv B th), (1, iv a0)]) dX1_omit_51 rfl (by decide) rfl ?_
        refine s_sub [1, 0] (lv' := [(0, rv B th), (2, iv a0)]) rfl ?_
        refine fX1_omit_L52_s hX th hth _ ?_ fu a0 s3
        intro s10
        refine s_aload_n 0 dX1_omit_110 rfl rfl ?_
        refine s_dup dX1_omit_111 rfl ?_
        refine s_geti dX1_omit_112 ly1 fl_X1_50 hth rfl ?_
        refine s_iconst dX1_omit_115 ?_
        refine s_isub dX1_omit_116 ?_
        refine s_puti dX1_omit_117 ly1 ty1 fl_X1_50 hth rfl po1_1 ⟨rfl, rfl, by decide⟩ (fun s11 => ?_)
        exact s_vret hX dX1_omit_120
      · exact s_sub [] rfl (hj1 σ)
abbrev rmX1_isHalt : Room := { frames := 0, cells := 0, slots := 0, locals := 0 }
abbrev SX1_isHalt (B : Nat) (X : Ctx) := Sim cX1_isHalt RX1 2 rmX1_isHalt B X
set_option maxHeartbeats 4000000 in
set_option maxRecDepth 100000 in
theorem ctX1_isHalt (B fu : Nat) (th : Nat) (hth : kd th = 1) (a0 : Int) (σ : Mem) : CtI yX1_isHalt cX1_isHalt 2 (some .boolean) rmX1_isHalt B [rv B th, iv a0] σ (fX1_isHalt fu th a0 σ) := by
  refine ctI_intro (own := RX1) (lv := [(0, rv B th), (1, iv a0)]) (by decide +kernel) rfl (Nat.le_of_ble_eq_true rfl) rfl (fun X hX => ?_)
  unfold fX1_isHalt
  refine s_iload_n 1 dX1_isHalt_0 rfl rfl ?_
  refine s_jn (fun (j1 : Int → Mem → PR) => ∀ (x1 : Int) (s4 : Mem), SX1_isHalt B X (j1 x1 s4) s4 17 [] [iv x1]) ?_ (fun j1 hj1 => ?_)
  · intro x1 s1
    exact s_zret hX dX1_isHalt_17
  · refine s_jn (fun (j2 : Mem → PR) => ∀ (s3 : Mem), SX1_isHalt B X (j2 s3) s3 16 [] []) ?_ (fun j2 hj2 => ?_)
    · intro s2
      refine s_iconst dX1_isHalt_16 ?_
      exact hj1 0 s2
    · refine s_if_lt (tgt := 16) dX1_isHalt_1 (by decide) ?_ ?_
      · exact s_sub [] rfl (hj2 σ)
      · refine s_iload_n 1 dX1_isHalt_4 rfl rfl ?_
        refine s_aload_n 0 dX1_isHalt_5 rfl rfl ?_
        refine s_geti dX1_isHalt_6 ly1 fl_X1_50 hth rfl ?_
        refine s_icmp_ge (tgt := 16) dX1_isHalt_9 (by decide) ?_ ?_
        · exact s_sub [] rfl (hj2 σ)
        · refine s_iconst dX1_isHalt_12 ?_
          refine s_goto (tgt := 17) dX1_isHalt_13 (by decide) ?_
          exact s_sub [] rfl (hj1 1 σ)
abbrev rmX1_isStep : Room := { frames := 0, cells := 0, slots := 0, locals := 0 }
abbrev SX1_isStep (B : Nat) (X : Ctx) := Sim cX1_isStep RX1 2 rmX1_isStep B X
set_option maxHeartbeats 4000000 in
set_option maxRecDepth 100000 in
theorem ctX1_isStep (B fu : Nat) (th : Nat) (hth : kd th = 1) (a0 : Int) (σ : Mem) : CtI yX1_isStep cX1_isStep 2 (some .boolean) rmX1_isStep B [rv B th, iv a0] σ (fX1_isStep fu th a0 σ) := by
  refine ctI_intro (own := RX1) (lv := [(0, rv B th), (1, iv a0)]) (by decide +kernel) rfl (Nat.le_of_ble_eq_true rfl) rfl (fun X hX => ?_)
  unfold fX1_isStep
  refine s_iload_n 1 dX1_isStep_0 rfl rfl ?_
  refine s_jn (fun (j1 : Int → Mem → PR) => ∀ (x1 : Int) (s4 : Mem), SX1_isStep B X (j1 x1 s4) s4 19 [] [iv x1]) ?_ (fun j1 hj1 => ?_)
  · intro x1 s1
    exact s_zret hX dX1_isStep_19
  · refine s_jn (fun (j2 : Mem → PR) => ∀ (s3 : Mem), SX1_isStep B X (j2 s3) s3 18 [] []) ?_ (fun j2 hj2 => ?_)
    · intro s2
      refine s_iconst dX1_isStep_18 ?_
      exact hj1 0 s2
    · refine s_if_lt (tgt := 18) dX1_isStep_1 (by decide) ?_ ?_
      · exact s_sub [] rfl (hj2 σ)
      · refine s_iload_n 1 dX1_isStep_4 rfl rfl ?_
        refine s_aload_n 0 dX1_isStep_5 rfl rfl ?_
        refine s_geti dX1_isStep_6 ly1 fl_X1_50 hth rfl ?_
        refine s_iconst dX1_isStep_9 ?_
        refine s_isub dX1_isStep_10 ?_
        refine s_icmp_ge (tgt := 18) dX1_isStep_11 (by decide) ?_ ?_
        · exact s_sub [] rfl (hj2 σ)
        · refine s_iconst dX1_isStep_14 ?_
          refine s_goto (tgt := 19) dX1_isStep_15 (by decide) ?_
          exact s_sub [] rfl (hj1 1 σ)
abbrev rmX1_goesTo : Room := { frames := 0, cells := 0, slots := 0, locals := 0 }
abbrev SX1_goesTo (B : Nat) (X : Ctx) := Sim cX1_goesTo RX1 3 rmX1_goesTo B X
set_option maxHeartbeats 4000000 in
set_option maxRecDepth 100000 in
theorem fX1_goesTo_L2_s {B fu : Nat} {X : Ctx} (hX : CxI .boolean B X) (p1 : Nat) (hp1 : kd p1 = 1) (c1 : Int) (k28 : Mem → PR) (hk28 : ∀ (s3 : Mem), SX1_goesTo B X (k28 s3) s3 28 [] []) (k20 : Mem → PR) (hk20 : ∀ (s4 : Mem), SX1_goesTo B X (k20 s4) s4 20 [] []) : ∀ (n : Nat) (x1 : Int) (s2 : Mem), SX1_goesTo B X (fX1_goesTo_L2 fu p1 c1 k28 k20 n x1 s2) s2 2 [(0, rv B p1), (1, iv c1), (2, iv x1)] [] := by
  intro n
  induction n with
  | zero => intro _ _; exact s_none
  | succ n ih =>
    intro x1 s1
    rw [fX1_goesTo_L2]
    refine s_iload_n 2 dX1_goesTo_2 rfl rfl ?_
    refine s_aload_n 0 dX1_goesTo_3 rfl rfl ?_
    refine s_geti dX1_goesTo_4 ly1 fl_X1_50 hp1 rfl ?_
    refine s_icmp_ge (tgt := 28) dX1_goesTo_7 (by decide) ?_ ?_
    · exact s_sub [] rfl (hk28 s1)
    · refine s_aload_n 0 dX1_goesTo_10 rfl rfl ?_
      refine s_getr (n := 0) (k' := p1 + 1) dX1_goesTo_11 ly1 fl_X1_18 hp1 rfl rfl rfl ?_
      refine s_iload_n 2 dX1_goesTo_14 rfl rfl ?_
      refine s_iald 8 dX1_goesTo_15 (kdL1 hp1) (by decide) (fun x2 => ?_)
      refine s_iload_n 1 dX1_goesTo_16 rfl rfl ?_
      refine s_icmp_ne (tgt := 22) dX1_goesTo_17 (by decide) ?_ ?_
      · refine s_iinc (lv' := [(2, iv (x1 + 1)), (0, rv B p1), (1, iv c1)]) 2 dX1_goesTo_22 rfl (by decide) rfl ?_
        refine s_goto (tgt := 2) dX1_goesTo_25 (by decide) ?_
        exact s_sub [1, 2, 0] rfl (ih (x1 + 1) s1)
      · exact s_sub [] rfl (hk20 s1)
set_option maxHeartbeats 4000000 in
set_option maxRecDepth 100000 in
theorem ctX1_goesTo (B fu : Nat) (th : Nat) (hth : kd th = 1) (a0 : Int) (σ : Mem) : CtI yX1_goesTo cX1_goesTo 3 (some .boolean) rmX1_goesTo B [rv B th, iv a0] σ (fX1_goesTo fu th a0 σ) := by
  refine ctI_intro (own := RX1) (lv := [(0, rv B th), (1, iv a0)]) (by decide +kernel) rfl (Nat.le_of_ble_eq_true rfl) rfl (fun X hX => ?_)
  unfold fX1_goesTo
  refine s_iconst dX1_goesTo_0 ?_
  refine s_istore_n (lv' := [(2, iv 0), (0, rv B th), (1, iv a0)]) dX1_goesTo_1 rfl (by decide) rfl ?_
  refine s_sub [1, 2, 0] (lv' := [(0, rv B th), (1, iv a0), (2, iv 0)]) rfl ?_
  refine fX1_goesTo_L2_s hX th hth a0 _ ?_ _ ?_ fu 0 σ
  · intro s5
    refine s_iconst dX1_goesTo_28 ?_
    exact s_zret hX dX1_goesTo_29
  · intro s6
    refine s_iconst dX1_goesTo_20 ?_
    exact s_zret hX dX1_goesTo_21
abbrev rmX1_findRides : Room := { frames := 1, cells := 0, slots := 0, locals := 21 }
abbrev SX1_findRides (B : Nat) (X : Ctx) := Sim cX1_findRides RX1 7 rmX1_findRides B X
set_option maxHeartbeats 4000000 in
set_option maxRecDepth 100000 in
theorem fX1_findRides_L9_s {B fu : Nat} {X : Ctx} (hX : CxV B X) (p1 : Nat) (hp1 : kd p1 = 1) (k112 : Mem → PR) (hk112 : ∀ (s17 : Mem), SX1_findRides B X (k112 s17) s17 112 [] []) : ∀ (n : Nat) (x2 : Int) (x3 : Int) (s16 : Mem), SX1_findRides B X (fX1_findRides_L9 fu p1 k112 n x2 x3 s16) s16 9 [(0, rv B p1), (1, rv B 270), (2, iv x2), (3, iv x3)] [] := by
  intro n
  induction n with
  | zero => intro _ _ _; exact s_none
  | succ n ih =>
    intro x2 x3 s1
    rw [fX1_findRides_L9]
    refine s_iload_n 3 dX1_findRides_9 rfl rfl ?_
    refine s_if_lt (tgt := 112) dX1_findRides_10 (by decide) ?_ ?_
    · exact s_sub [] rfl (hk112 s1)
    · refine s_iload_n 2 dX1_findRides_13 rfl rfl ?_
      refine s_iconst dX1_findRides_14 ?_
      refine s_jn (fun (j1 : Int → Mem → PR) => ∀ (x4 : Int) (s15 : Mem), SX1_findRides B X (j1 x4 s15) s15 29 [(0, rv B p1), (1, rv B 270), (3, iv x3)] [iv x4]) ?_ (fun j1 hj1 => ?_)
      · intro x4 s2
        refine s_istore (lv' := [(4, iv x4), (0, rv B p1), (1, rv B 270), (3, iv x3)]) dX1_findRides_29 (by decide) rfl ?_
        refine s_aload_n 2 dX1_findRides_31 rfl rfl ?_
        refine s_aload_n 1 dX1_findRides_32 rfl rfl ?_
        refine s_getr (n := 0) (k' := p1 + 1) dX1_findRides_33 ly1 fl_X1_18 hp1 rfl rfl rfl ?_
        refine s_iload_n 3 dX1_findRides_36 rfl rfl ?_
        refine s_iald 8 dX1_findRides_37 (kdL1 hp1) (by decide) (fun x5 => ?_)
        refine s_aals dX1_findRides_38 (fun p2 hp2 => ?_)
        refine s_geti dX1_findRides_39 ly4 fl_X1_72 hp2 rfl ?_
        refine s_lti (fun x6 => ?_)
        refine s_istore (lv' := [(5, iv x6), (4, iv x4), (0, rv B p1), (1, rv B 270), (3, iv x3)]) dX1_findRides_42 (by decide) rfl ?_
        refine s_iload 0 dX1_findRides_44 rfl ?_
        refine s_iconst dX1_findRides_46 ?_
        refine s_jn (fun (j2 : Int → Mem → PR) => ∀ (x7 : Int) (s13 : Mem), SX1_findRides B X (j2 x7 s13) s13 68 [(0, rv B p1), (1, rv B 270), (3, iv x3), (4, iv x4), (5, iv x6)] [iv x7]) ?_ (fun j2 hj2 => ?_)
        · intro x7 s3
          refine s_istore (lv' := [(6, iv x7), (0, rv B p1), (1, rv B 270), (3, iv x3), (4, iv x4), (5, iv x6)]) dX1_findRides_68 (by decide) rfl ?_
          refine s_iload 0 dX1_findRides_70 rfl ?_
          refine s_jn (fun (j3 : Int → Mem → PR) => ∀ (x8 : Int) (s8 : Mem), SX1_findRides B X (j3 x8 s8) s8 82 [(0, rv B p1), (1, rv B 270), (3, iv x3), (4, iv x4), (6, iv x7)] [iv x8]) ?_ (fun j3 hj3 => ?_)
          · intro x8 s4
            refine s_istore_n (lv' := [(2, iv x8), (0, rv B p1), (1, rv B 270), (3, iv x3), (4, iv x4), (6, iv x7)]) dX1_findRides_82 rfl (by decide) rfl ?_
            refine s_aload_n 1 dX1_findRides_83 rfl rfl ?_
            refine s_getr (n := 5) (k' := p1 + 6) dX1_findRides_84 ly1 fl_X1_34 hp1 rfl rfl rfl ?_
            refine s_iload_n 3 dX1_findRides_87 rfl rfl ?_
            refine s_iload 4 dX1_findRides_88 rfl ?_
            refine s_iast 8 dX1_findRides_90 (kdL6 hp1) (by decide) (fun s5 => ?_)
            refine s_aload_n 1 dX1_findRides_91 rfl rfl ?_
            refine s_getr (n := 4) (k' := p1 + 5) dX1_findRides_92 ly1 fl_X1_31 hp1 rfl rfl rfl ?_
            refine s_iload_n 3 dX1_findRides_95 rfl rfl ?_
            refine s_iload_n 0 dX1_findRides_96 rfl rfl ?_
            refine s_iast 8 dX1_findRides_97 (kdL5 hp1) (by decide) (fun s6 => ?_)
            refine s_aload_n 1 dX1_findRides_98 rfl rfl ?_
            refine s_getr (n := 6) (k' := p1 + 7) dX1_findRides_99 ly1 fl_X1_37 hp1 rfl rfl rfl ?_
            refine s_iload_n 3 dX1_findRides_102 rfl rfl ?_
            refine s_iload 5 dX1_findRides_103 rfl ?_
            refine s_zast 8 dX1_findRides_105 (kdL7 hp1) (by decide) (fun s7 => ?_)
            refine s_iinc (lv' := [(3, iv (x3 + (-1))), (2, iv x8), (0, rv B p1), (1, rv B 270), (4, iv x4), (6, iv x7)]) 3 dX1_findRides_106 rfl (by decide) rfl ?_
            refine s_goto (tgt := 9) dX1_findRides_109 (by decide) ?_
            exact s_sub [2, 3, 1, 0] rfl (ih x8 (x3 + (-1)) s7)
          · refine s_if_eq (tgt := 80) dX1_findRides_72 (by decide) ?_ ?_
            · refine s_iload 4 dX1_findRides_80 rfl ?_
              exact s_sub [1, 2, 3, 4, 0] rfl (hj3 x4 s3)
            · refine s_iload 5 dX1_findRides_75 rfl ?_
              refine s_goto (tgt := 82) dX1_findRides_77 (by decide) ?_
              exact s_sub [1, 2, 3, 4, 0] rfl (hj3 x6 s3)
        · refine s_jn (fun (j4 : Mem → PR) => ∀ (s12 : Mem), SX1_findRides B X (j4 s12) s12 67 [(0, rv B p1), (1, rv B 270), (3, iv x3), (4, iv x4), (5, iv x6)] []) ?_ (fun j4 hj4 => ?_)
          · intro s9
            refine s_iconst dX1_findRides_67 ?_
            exact hj2 0 s9
          · refine s_icmp_eq (tgt := 67) dX1_findRides_47 (by decide) ?_ ?_
            · exact s_sub [2, 3, 4, 1, 0] rfl (hj4 s2)
            · refine s_iload 1 dX1_findRides_50 rfl ?_
              refine s_iconst dX1_findRides_52 ?_
              refine s_jn (fun (j5 : Mem → PR) => ∀ (s11 : Mem), SX1_findRides B X (j5 s11) s11 63 [(0, rv B p1), (1, rv B 270), (3, iv x3), (4, iv x4), (5, iv x6)] []) ?_ (fun j5 hj5 => ?_)
              · intro s10
                refine s_iconst dX1_findRides_63 ?_
                refine s_goto (tgt := 68) dX1_findRides_64 (by decide) ?_
                exact hj2 1 s10
              · refine s_icmp_eq (tgt := 63) dX1_findRides_53 (by decide) ?_ ?_
                · exact s_sub [2, 3, 4, 1, 0] rfl (hj5 s2)
                · refine s_iload 0 dX1_findRides_56 rfl ?_
                  refine s_iload 1 dX1_findRides_58 rfl ?_
                  refine s_icmp_gt (tgt := 67) dX1_findRides_60 (by decide) ?_ ?_
                  · exact s_sub [2, 3, 4, 1, 0] rfl (hj4 s2)
                  · exact s_sub [2, 3, 4, 1, 0] rfl (hj5 s2)
      · refine s_icmp_ne (tgt := 22) dX1_findRides_15 (by decide) ?_ ?_
        · refine s_aload_n 0 dX1_findRides_22 rfl rfl ?_
          refine s_iload_n 3 dX1_findRides_23 rfl rfl ?_
          refine s_Vi (rest := []) dX1_findRides_24 lk_X1_68 meX1_time (ctX1_time B fu p1 hp1 x3 s1) hp1 ⟨rfl, by decide⟩ rfl rfl ⟨rfl, rfl, by decide, by decide⟩ (Nat.le_of_ble_eq_true rfl) (fun x9 s14 => ?_)
          refine s_iload_n 2 dX1_findRides_27 rfl rfl ?_
          refine s_iadd dX1_findRides_28 ?_
          exact s_sub [0, 1, 3] rfl (hj1 (x9 + x2) s14)
        · refine s_iconst dX1_findRides_18 ?_
          refine s_goto (tgt := 29) dX1_findRides_19 (by decide) ?_
          exact s_sub [0, 1, 3] rfl (hj1 (-1) s1)
set_option maxHeartbeats 4000000 in
set_option maxRecDepth 100000 in
theorem ctX1_findRides (B fu : Nat) (th : Nat) (hth : kd th = 1) (σ : Mem) : CtV yX1_findRides cX1_findRides 7 none rmX1_findRides B [rv B th, rv B 270] σ (fX1_findRides fu th σ) := by
  refine ctV_intro (own := RX1) (lv := [(0, rv B th), (1, rv B 270)]) (by decide +kernel) rfl (Nat.le_of_ble_eq_true rfl) rfl (fun X hX => ?_)
  unfold fX1_findRides
  refine s_iconst dX1_findRides_0 ?_
  refine s_istore_n (lv' := [(2, iv (-1)), (0, rv B th), (1, rv B 270)]) dX1_findRides_1 rfl (by decide) rfl ?_
  refine s_aload_n 1 dX1_findRides_2 rfl rfl ?_
  refine s_geti dX1_findRides_3 ly1 fl_X1_50 hth rfl ?_
  refine s_iconst dX1_findRides_6 ?_
  refine s_isub dX1_findRides_7 ?_
  refine s_lti (fun x1 => ?_)
  refine s_istore_n (lv' := [(3, iv x1), (2, iv (-1)), (0, rv B th), (1, rv B 270)]) dX1_findRides_8 rfl (by decide) rfl ?_
  refine s_sub [2, 3, 1, 0] (lv' := [(0, rv B th), (1, rv B 270), (2, iv (-1)), (3, iv x1)]) rfl ?_
  refine fX1_findRides_L9_s hX th hth _ ?_ fu (-1) x1 σ
  intro s18
  exact s_vret hX dX1_findRides_112
abbrev rmX1_forgetLoads : Room := { frames := 0, cells := 0, slots := 0, locals := 0 }
abbrev SX1_forgetLoads (B : Nat) (X : Ctx) := Sim cX1_forgetLoads RX1 2 rmX1_forgetLoads B X
set_option maxHeartbeats 4000000 in
set_option maxRecDepth 100000 in
theorem fX1_forgetLoads_L2_s {B fu : Nat} {X : Ctx} (hX : CxV B X) (p1 : Nat) (hp1 : kd p1 = 1) (k35 : Mem → PR) (hk35 : ∀ (s6 : Mem), SX1_forgetLoads B X (k35 s6) s6 35 [] []) : ∀ (n : Nat) (x1 : Int) (s5 : Mem), SX1_forgetLoads B X (fX1_forgetLoads_L2 fu p1 k35 n x1 s5) s5 2 [(0, rv B p1), (1, iv x1)] [] := by
  intro n
  induction n with
  | zero => intro _ _; exact s_none
  | succ n ih =>
    intro x1 s1
    rw [fX1_forgetLoads_L2]
    refine s_iload_n 1 dX1_forgetLoads_2 rfl rfl ?_
    refine s_bipush dX1_forgetLoads_3 (by decide) ?_
    refine s_icmp_ge (tgt := 35) dX1_forgetLoads_5 (by decide) ?_ ?_
    · exact s_sub [] rfl (hk35 s1)
    · refine s_aload_n 0 dX1_forgetLoads_8 rfl rfl ?_
      refine s_getr (n := 7) (k' := p1 + 8) dX1_forgetLoads_9 ly1 fl_X1_41 hp1 rfl rfl rfl ?_
      refine s_iload_n 1 dX1_forgetLoads_12 rfl rfl ?_
      refine s_iconst dX1_forgetLoads_13 ?_
      refine s_iast 8 dX1_forgetLoads_14 (kdL8 hp1) (by decide) (fun s2 => ?_)
      refine s_aload_n 0 dX1_forgetLoads_15 rfl rfl ?_
      refine s_getr (n := 8) (k' := p1 + 9) dX1_forgetLoads_16 ly1 fl_X1_44 hp1 rfl rfl rfl ?_
      refine s_iload_n 1 dX1_forgetLoads_19 rfl rfl ?_
      refine s_iconst dX1_forgetLoads_20 ?_
      refine s_iast 8 dX1_forgetLoads_21 (kdL9 hp1) (by decide) (fun s3 => ?_)
      refine s_aload_n 0 dX1_forgetLoads_22 rfl rfl ?_
      refine s_getr (n := 9) (k' := p1 + 10) dX1_forgetLoads_23 ly1 fl_X1_47 hp1 rfl rfl rfl ?_
      refine s_iload_n 1 dX1_forgetLoads_26 rfl rfl ?_
      refine s_iconst dX1_forgetLoads_27 ?_
      refine s_iast 8 dX1_forgetLoads_28 (kdL10 hp1) (by decide) (fun s4 => ?_)
      refine s_iinc (lv' := [(1, iv (x1 + 1)), (0, rv B p1)]) 1 dX1_forgetLoads_29 rfl (by decide) rfl ?_
      refine s_goto (tgt := 2) dX1_forgetLoads_32 (by decide) ?_
      exact s_sub [1, 0] rfl (ih (x1 + 1) s4)
set_option maxHeartbeats 4000000 in
set_option maxRecDepth 100000 in
theorem ctX1_forgetLoads (B fu : Nat) (th : Nat) (hth : kd th = 1) (σ : Mem) : CtV yX1_forgetLoads cX1_forgetLoads 2 none rmX1_forgetLoads B [rv B th] σ (fX1_forgetLoads fu th σ) := by
  refine ctV_intro (own := RX1) (lv := [(0, rv B th)]) (by decide +kernel) rfl (Nat.le_of_ble_eq_true rfl) rfl (fun X hX => ?_)
  unfold fX1_forgetLoads
  refine s_iconst dX1_forgetLoads_0 ?_
  refine s_istore_n (lv' := [(1, iv 0), (0, rv B th)]) dX1_forgetLoads_1 rfl (by decide) rfl ?_
  refine s_sub [1, 0] (lv' := [(0, rv B th), (1, iv 0)]) rfl ?_
  refine fX1_forgetLoads_L2_s hX th hth _ ?_ fu 0 σ
  intro s7
  exact s_vret hX dX1_forgetLoads_35
abbrev rmX1_carry : Room := { frames := 0, cells := 0, slots := 0, locals := 0 }
abbrev SX1_carry (B : Nat) (X : Ctx) := Sim cX1_carry RX1 5 rmX1_carry B X
set_option maxHeartbeats 4000000 in
set_option maxRecDepth 100000 in
theorem fX1_carry_L23_s {B fu : Nat} {X : Ctx} (hX : CxV B X) (p1 : Nat) (hp1 : kd p1 = 1) (c1 : Int) (c2 : Int) (k46 : Mem → PR) (hk46 : ∀ (s6 : Mem), SX1_carry B X (k46 s6) s6 46 [] []) : ∀ (n : Nat) (x3 : Int) (s5 : Mem), SX1_carry B X (fX1_carry_L23 fu p1 c1 c2 k46 n x3 s5) s5 23 [(0, rv B p1), (2, iv c1), (3, iv c2), (4, iv x3)] [] := by
  intro n
  induction n with
  | zero => intro _ _; exact s_none
  | succ n ih =>
    intro x3 s3
    rw [fX1_carry_L23]
    refine s_iload 3 dX1_carry_23 rfl ?_
    refine s_iload_n 1 dX1_carry_25 rfl rfl ?_
    refine s_icmp_ge (tgt := 46) dX1_carry_26 (by decide) ?_ ?_
    · exact s_sub [] rfl (hk46 s3)
    · refine s_aload_n 0 dX1_carry_29 rfl rfl ?_
      refine s_getr (n := 7) (k' := p1 + 8) dX1_carry_30 ly1 fl_X1_41 hp1 rfl rfl rfl ?_
      refine s_iload 3 dX1_carry_33 rfl ?_
      refine s_dup2 dX1_carry_35 rfl rfl ?_
      refine s_iald 8 dX1_carry_36 (kdL8 hp1) (by decide) (fun x4 => ?_)
      refine s_iload_n 2 dX1_carry_37 rfl rfl ?_
      refine s_iadd dX1_carry_38 ?_
      refine s_iast 8 dX1_carry_39 (kdL8 hp1) (by decide) (fun s4 => ?_)
      refine s_iinc (lv' := [(4, iv (x3 + 1)), (0, rv B p1), (2, iv c1), (3, iv c2)]) 3 dX1_carry_40 rfl (by decide) rfl ?_
      refine s_goto (tgt := 23) dX1_carry_43 (by decide) ?_
      exact s_sub [1, 2, 3, 0] rfl (ih (x3 + 1) s4)
set_option maxHeartbeats 4000000 in
set_option maxRecDepth 100000 in
theorem ctX1_carry (B fu : Nat) (th : Nat) (hth : kd th = 1) (a0 : Int) (a1 : Int) (a2 : Int) (σ : Mem) : CtV yX1_carry cX1_carry 5 none rmX1_carry B [rv B th, iv a0, iv a1, iv a2] σ (fX1_carry fu th a0 a1 a2 σ) := by
  refine ctV_intro (own := RX1) (lv := [(0, rv B th), (1, iv a0), (2, iv a1), (3, iv a2)]) (by decide +kernel) rfl (Nat.le_of_ble_eq_true rfl) rfl (fun X hX => ?_)
  unfold fX1_carry
  refine s_aload_n 0 dX1_carry_0 rfl rfl ?_
  refine s_getr (n := 8) (k' := th + 9) dX1_carry_1 ly1 fl_X1_44 hth rfl rfl rfl ?_
  refine s_iload_n 1 dX1_carry_4 rfl rfl ?_
  refine s_dup2 dX1_carry_5 rfl rfl ?_
  refine s_iald 8 dX1_carry_6 (kdL9 hth) (by decide) (fun x1 => ?_)
  refine s_iload_n 3 dX1_carry_7 rfl rfl ?_
  refine s_iadd dX1_carry_8 ?_
  refine s_iast 8 dX1_carry_9 (kdL9 hth) (by decide) (fun s1 => ?_)
  refine s_aload_n 0 dX1_carry_10 rfl rfl ?_
  refine s_getr (n := 9) (k' := th + 10) dX1_carry_11 ly1 fl_X1_47 hth rfl rfl rfl ?_
  refine s_iload_n 2 dX1_carry_14 rfl rfl ?_
  refine s_dup2 dX1_carry_15 rfl rfl ?_
  refine s_iald 8 dX1_carry_16 (kdL10 hth) (by decide) (fun x2 => ?_)
  refine s_iload_n 3 dX1_carry_17 rfl rfl ?_
  refine s_iadd dX1_carry_18 ?_
  refine s_iast 8 dX1_carry_19 (kdL10 hth) (by decide) (fun s2 => ?_)
  refine s_iload_n 1 dX1_carry_20 rfl rfl ?_
  refine s_istore (lv' := [(4, iv a0), (0, rv B th), (1, iv a0), (2, iv a1), (3, iv a2)]) dX1_carry_21 (by decide) rfl ?_
  refine s_sub [1, 3, 4, 0] (lv' := [(0, rv B th), (2, iv a1), (3, iv a2), (4, iv a0)]) rfl ?_
  refine fX1_carry_L23_s hX th hth a1 a2 _ ?_ fu a0 s2
  intro s7
  exact s_vret hX dX1_carry_46
abbrev rmX1_allEntering : Room := { frames := 0, cells := 0, slots := 0, locals := 0 }
abbrev SX1_allEntering (B : Nat) (X : Ctx) := Sim cX1_allEntering RX1 3 rmX1_allEntering B X
set_option maxHeartbeats 4000000 in
set_option maxRecDepth 100000 in
theorem fX1_allEntering_L4_s {B fu : Nat} {X : Ctx} (hX : CxI .int B X) (p1 : Nat) (hp1 : kd p1 = 1) (k27 : Int → Mem → PR) (hk27 : ∀ (x3 : Int) (s3 : Mem), SX1_allEntering B X (k27 x3 s3) s3 27 [(1, iv x3)] []) : ∀ (n : Nat) (x1 : Int) (x2 : Int) (s2 : Mem), SX1_allEntering B X (fX1_allEntering_L4 fu p1 k27 n x1 x2 s2) s2 4 [(0, rv B p1), (1, iv x1), (2, iv x2)] [] := by
  intro n
  induction n with
  | zero => intro _ _ _; exact s_none
  | succ n ih =>
    intro x1 x2 s1
    rw [fX1_allEntering_L4]
    refine s_iload_n 2 dX1_allEntering_4 rfl rfl ?_
    refine s_aload_n 0 dX1_allEntering_5 rfl rfl ?_
    refine s_geti dX1_allEntering_6 ly1 fl_X1_50 hp1 rfl ?_
    refine s_icmp_ge (tgt := 27) dX1_allEntering_9 (by decide) ?_ ?_
    · exact s_sub [1] rfl (hk27 x1 s1)
    · refine s_iload_n 1 dX1_allEntering_12 rfl rfl ?_
      refine s_aload_n 0 dX1_allEntering_13 rfl rfl ?_
      refine s_getr (n := 8) (k' := p1 + 9) dX1_allEntering_14 ly1 fl_X1_44 hp1 rfl rfl rfl ?_
      refine s_iload_n 2 dX1_allEntering_17 rfl rfl ?_
      refine s_iald 8 dX1_allEntering_18 (kdL9 hp1) (by decide) (fun x4 => ?_)
      refine s_iadd dX1_allEntering_19 ?_
      refine s_lti (fun x5 => ?_)
      refine s_istore_n (lv' := [(1, iv x5), (0, rv B p1), (2, iv x2)]) dX1_allEntering_20 rfl (by decide) rfl ?_
      refine s_iinc (lv' := [(2, iv (x2 + 1)), (1, iv x5), (0, rv B p1)]) 2 dX1_allEntering_21 rfl (by decide) rfl ?_
      refine s_goto (tgt := 4) dX1_allEntering_24 (by decide) ?_
      exact s_sub [2, 1, 0] rfl (ih x5 (x2 + 1) s1)
set_option maxHeartbeats 4000000 in
set_option maxRecDepth 100000 in
theorem ctX1_allEntering (B fu : Nat) (th : Nat) (hth : kd th = 1) (σ : Mem) : CtI yX1_allEntering cX1_allEntering 3 (some .int) rmX1_allEntering B [rv B th] σ (fX1_allEntering fu th σ) := by
  refine ctI_intro (own := RX1) (lv := [(0, rv B th)]) (by decide +kernel) rfl (Nat.le_of_ble_eq_true rfl) rfl (fun X hX => ?_)
  unfold fX1_allEntering
  refine s_iconst dX1_allEntering_0 ?_
  refine s_istore_n (lv' := [(1, iv 0), (0, rv B th)]) dX1_allEntering_1 rfl (by decide) rfl ?_
  refine s_iconst dX1_allEntering_2 ?_
  refine s_istore_n (lv' := [(2, iv 0), (1, iv 0), (0, rv B th)]) dX1_allEntering_3 rfl (by decide) rfl ?_
  refine s_sub [2, 1, 0] (lv' := [(0, rv B th), (1, iv 0), (2, iv 0)]) rfl ?_
  refine fX1_allEntering_L4_s hX th hth _ ?_ fu 0 0 σ
  intro x6 s4
  refine s_iload_n 0 dX1_allEntering_27 rfl rfl ?_
  exact s_iret hX dX1_allEntering_28
abbrev rmX1_fullestStep : Room := { frames := 0, cells := 0, slots := 0, locals := 0 }
abbrev SX1_fullestStep (B : Nat) (X : Ctx) := Sim cX1_fullestStep RX1 3 rmX1_fullestStep B X
set_option maxHeartbeats 4000000 in
set_option maxRecDepth 100000 in
theorem fX1_fullestStep_L4_s {B fu : Nat} {X : Ctx} (hX : CxI .int B X) (p1 : Nat) (hp1 : kd p1 = 1) (k37 : Int → Mem → PR) (hk37 : ∀ (x3 : Int) (s5 : Mem), SX1_fullestStep B X (k37 x3 s5) s5 37 [(1, iv x3)] []) : ∀ (n : Nat) (x1 : Int) (x2 : Int) (s4 : Mem), SX1_fullestStep B X (fX1_fullestStep_L4 fu p1 k37 n x1 x2 s4) s4 4 [(0, rv B p1), (1, iv x1), (2, iv x2)] [] := by
  intro n
  induction n with
  | zero => intro _ _ _; exact s_none
  | succ n ih =>
    intro x1 x2 s1
    rw [fX1_fullestStep_L4]
    refine s_iload_n 2 dX1_fullestStep_4 rfl rfl ?_
    refine s_aload_n 0 dX1_fullestStep_5 rfl rfl ?_
    refine s_geti dX1_fullestStep_6 ly1 fl_X1_50 hp1 rfl ?_
    refine s_iconst dX1_fullestStep_9 ?_
    refine s_isub dX1_fullestStep_10 ?_
    refine s_icmp_ge (tgt := 37) dX1_fullestStep_11 (by decide) ?_ ?_
    · exact s_sub [1] rfl (hk37 x1 s1)
    · refine s_aload_n 0 dX1_fullestStep_14 rfl rfl ?_
      refine s_getr (n := 7) (k' := p1 + 8) dX1_fullestStep_15 ly1 fl_X1_41 hp1 rfl rfl rfl ?_
      refine s_iload_n 2 dX1_fullestStep_18 rfl rfl ?_
      refine s_iald 8 dX1_fullestStep_19 (kdL8 hp1) (by decide) (fun x4 => ?_)
      refine s_aload_n 0 dX1_fullestStep_20 rfl rfl ?_
      refine s_getr (n := 7) (k' := p1 + 8) dX1_fullestStep_21 ly1 fl_X1_41 hp1 rfl rfl rfl ?_
      refine s_iload_n 1 dX1_fullestStep_24 rfl rfl ?_
      refine s_iald 8 dX1_fullestStep_25 (kdL8 hp1) (by decide) (fun x5 => ?_)
      refine s_jn (fun (j1 : Int → Mem → PR) => ∀ (x6 : Int) (s3 : Mem), SX1_fullestStep B X (j1 x6 s3) s3 31 [(0, rv B p1), (1, iv x6), (2, iv x2)] []) ?_ (fun j1 hj1 => ?_)
      · intro x6 s2
        refine s_iinc (lv' := [(2, iv (x2 + 1)), (0, rv B p1), (1, iv x6)]) 2 dX1_fullestStep_31 rfl (by decide) rfl ?_
        refine s_goto (tgt := 4) dX1_fullestStep_34 (by decide) ?_
        exact s_sub [1, 2, 0] rfl (ih x6 (x2 + 1) s2)
      · refine s_icmp_le (tgt := 31) dX1_fullestStep_26 (by decide) ?_ ?_
        · exact hj1 x1 s1
        · refine s_iload_n 2 dX1_fullestStep_29 rfl rfl ?_
          refine s_istore_n (lv' := [(1, iv x2), (0, rv B p1), (2, iv x2)]) dX1_fullestStep_30 rfl (by decide) rfl ?_
          exact s_sub [1, 0, 2] rfl (hj1 x2 s1)
set_option maxHeartbeats 4000000 in
set_option maxRecDepth 100000 in
theorem ctX1_fullestStep (B fu : Nat) (th : Nat) (hth : kd th = 1) (σ : Mem) : CtI yX1_fullestStep cX1_fullestStep 3 (some .int) rmX1_fullestStep B [rv B th] σ (fX1_fullestStep fu th σ) := by
  refine ctI_intro (own := RX1) (lv := [(0, rv B th)]) (by decide +kernel) rfl (Nat.le_of_ble_eq_true rfl) rfl (fun X hX => ?_)
  unfold fX1_fullestStep
  refine s_iconst dX1_fullestStep_0 ?_
  refine s_istore_n (lv' := [(1, iv 0), (0, rv B th)]) dX1_fullestStep_1 rfl (by decide) rfl ?_
  refine s_iconst dX1_fullestStep_2 ?_
  refine s_istore_n (lv' := [(2, iv 1), (1, iv 0), (0, rv B th)]) dX1_fullestStep_3 rfl (by decide) rfl ?_
  refine s_sub [2, 1, 0] (lv' := [(0, rv B th), (1, iv 0), (2, iv 1)]) rfl ?_
  refine fX1_fullestStep_L4_s hX th hth _ ?_ fu 0 1 σ
  intro x7 s6
  refine s_iload_n 0 dX1_fullestStep_37 rfl rfl ?_
  exact s_iret hX dX1_fullestStep_38
abbrev rmX1_averageLoads : Room := { frames := 1, cells := 0, slots := 0, locals := 23 }
abbrev SX1_averageLoads (B : Nat) (X : Ctx) := Sim cX1_averageLoads RX1 8 rmX1_averageLoads B X
set_option maxHeartbeats 4000000 in
set_option maxRecDepth 100000 in
theorem fX1_averageLoads_L5_s {B fu : Nat} {X : Ctx} (hX : CxI .int B X) (p1 : Nat) (hp1 : kd p1 = 1) (c1 : Int) (c2 : Int) (k109 : Int → Mem → PR) (hk109 : ∀ (x3 : Int) (s7 : Mem), SX1_averageLoads B X (k109 x3 s7) s7 109 [(3, iv x3)] []) : ∀ (n : Nat) (x1 : Int) (x2 : Int) (s6 : Mem), SX1_averageLoads B X (fX1_averageLoads_L5 fu p1 c1 c2 k109 n x1 x2 s6) s6 5 [(0, rv B p1), (1, iv c1), (2, iv c2), (3, iv x1), (4, iv x2)] [] := by
  intro n
  induction n with
  | zero => intro _ _ _; exact s_none
  | succ n ih =>
    intro x1 x2 s1
    rw [fX1_averageLoads_L5]
    refine s_iload 4 dX1_averageLoads_5 rfl ?_
    refine s_aload_n 0 dX1_averageLoads_7 rfl rfl ?_
    refine s_geti dX1_averageLoads_8 ly1 fl_X1_50 hp1 rfl ?_
    refine s_iconst dX1_averageLoads_11 ?_
    refine s_isub dX1_averageLoads_12 ?_
    refine s_icmp_ge (tgt := 109) dX1_averageLoads_13 (by decide) ?_ ?_
    · exact s_sub [3] rfl (hk109 x1 s1)
    · refine s_aload_n 0 dX1_averageLoads_16 rfl rfl ?_
      refine s_getr (n := 7) (k' := p1 + 8) dX1_averageLoads_17 ly1 fl_X1_41 hp1 rfl rfl rfl ?_
      refine s_iload 4 dX1_averageLoads_20 rfl ?_
      refine s_iald 8 dX1_averageLoads_22 (kdL8 hp1) (by decide) (fun x4 => ?_)
      refine s_aload_n 0 dX1_averageLoads_23 rfl rfl ?_
      refine s_getr (n := 3) (k' := p1 + 4) dX1_averageLoads_24 ly1 fl_X1_28 hp1 rfl rfl rfl ?_
      refine s_iload 4 dX1_averageLoads_27 rfl ?_
      refine s_iald 8 dX1_averageLoads_29 (kdL4 hp1) (by decide) (fun x5 => ?_)
      refine s_isub dX1_averageLoads_30 ?_
      refine s_lti (fun x6 => ?_)
      refine s_istore (lv' := [(5, iv x6), (0, rv B p1), (1, iv c1), (2, iv c2), (3, iv x1), (4, iv x2)]) dX1_averageLoads_31 (by decide) rfl ?_
      refine s_iload_n 4 dX1_averageLoads_33 rfl rfl ?_
      refine s_iload 0 dX1_averageLoads_34 rfl ?_
      refine s_abs32 dX1_averageLoads_36 lk_X1_77 meJ9_abs_0f7a4 ⟨by decide, by decide⟩ (Nat.le_of_ble_eq_true rfl) ?_
      refine s_iadd dX1_averageLoads_39 ?_
      refine s_lti (fun x7 => ?_)
      refine s_istore_n (lv' := [(3, iv x7), (5, iv x6), (0, rv B p1), (1, iv c1), (2, iv c2), (4, iv x2)]) dX1_averageLoads_40 rfl (by decide) rfl ?_
      refine s_aload_n 2 dX1_averageLoads_41 rfl rfl ?_
      refine s_getr (n := 3) (k' := p1 + 4) dX1_averageLoads_42 ly1 fl_X1_28 hp1 rfl rfl rfl ?_
      refine s_iload 5 dX1_averageLoads_45 rfl ?_
      refine s_dup2 dX1_averageLoads_47 rfl rfl ?_
      refine s_iald 8 dX1_averageLoads_48 (kdL4 hp1) (by decide) (fun x8 => ?_)
      refine s_iload 1 dX1_averageLoads_49 rfl ?_
      refine s_i2l dX1_averageLoads_51 ?_
      refine s_iload_n 3 dX1_averageLoads_52 rfl rfl ?_
      refine s_i2l dX1_averageLoads_53 ?_
      refine s_Nl (rest := [iv x8, iv x2, rv B (p1 + 4)]) dX1_averageLoads_54 nk_X1_82 meX6_parts (ctX6_parts B fu (w32 x6) (w32 c1) s1) rfl rfl ⟨rfl, rfl, by decide, by decide⟩ (Nat.le_of_ble_eq_true rfl) (fun x9 s2 => ?_)
      refine s_l2i dX1_averageLoads_57 ?_
      refine s_iadd dX1_averageLoads_58 ?_
      refine s_iast 8 dX1_averageLoads_59 (kdL4 hp1) (by decide) (fun s3 => ?_)
      refine s_iload_n 4 dX1_averageLoads_60 rfl rfl ?_
      refine s_i2l dX1_averageLoads_61 ?_
      refine s_aload_n 2 dX1_averageLoads_62 rfl rfl ?_
      refine s_getr (n := 3) (k' := p1 + 4) dX1_averageLoads_63 ly1 fl_X1_28 hp1 rfl rfl rfl ?_
      refine s_iload 5 dX1_averageLoads_66 rfl ?_
      refine s_iald 8 dX1_averageLoads_68 (kdL4 hp1) (by decide) (fun x10 => ?_)
      refine s_i2l dX1_averageLoads_69 ?_
      refine s_lmul dX1_averageLoads_70 ?_
      refine s_aload_n 2 dX1_averageLoads_71 rfl rfl ?_
      refine s_geti dX1_averageLoads_72 ly1 fl_X1_15 hp1 rfl ?_
      refine s_i2l dX1_averageLoads_75 ?_
      refine s_aload_n 2 dX1_averageLoads_76 rfl rfl ?_
      refine s_geti dX1_averageLoads_77 ly1 fl_X1_9 hp1 rfl ?_
      refine s_i2l dX1_averageLoads_80 ?_
      refine s_lmul dX1_averageLoads_81 ?_
      refine s_Nl (rest := []) dX1_averageLoads_82 nk_X1_82 meX6_parts (ctX6_parts B fu ((w32 c2) * (w32 x10)) ((w32 (s3 p1 2)) * (w32 (s3 p1 0))) s3) rfl rfl ⟨rfl, rfl, by decide, by decide⟩ (Nat.le_of_ble_eq_true rfl) (fun x11 s4 => ?_)
      refine s_lstore (lv' := [(6, jv x11), (3, iv x7), (5, iv x6), (0, rv B p1), (1, iv c1), (2, iv c2), (4, iv x2)]) dX1_averageLoads_85 (by decide) rfl ?_
      refine s_aload_n 3 dX1_averageLoads_87 rfl rfl ?_
      refine s_getr (n := 2) (k' := p1 + 3) dX1_averageLoads_88 ly1 fl_X1_25 hp1 rfl rfl rfl ?_
      refine s_iload 6 dX1_averageLoads_91 rfl ?_
      refine s_lload 0 dX1_averageLoads_93 rfl ?_
      refine s_ldc2 (x := 100000) dX1_averageLoads_95 cl_X1_86 (by decide) ?_
      refine s_min64 dX1_averageLoads_98 lk_X1_88 meJ9_min_f86c9 ⟨by decide, by decide⟩ (Nat.le_of_ble_eq_true rfl) ?_
      refine s_l2i dX1_averageLoads_101 ?_
      refine s_iast 8 dX1_averageLoads_102 (kdL3 hp1) (by decide) (fun s5 => ?_)
      refine s_iinc (lv' := [(4, iv (x2 + 1)), (6, jv x11), (3, iv x7), (5, iv x6), (0, rv B p1), (1, iv c1), (2, iv c2)]) 6 dX1_averageLoads_103 rfl (by decide) rfl ?_
      refine s_goto (tgt := 5) dX1_averageLoads_106 (by decide) ?_
      exact s_sub [4, 5, 6, 2, 0] rfl (ih x7 (x2 + 1) s5)
set_option maxHeartbeats 4000000 in
set_option maxRecDepth 100000 in
theorem ctX1_averageLoads (B fu : Nat) (th : Nat) (hth : kd th = 1) (a0 : Int) (a1 : Int) (σ : Mem) : CtI yX1_averageLoads cX1_averageLoads 8 (some .int) rmX1_averageLoads B [rv B th, iv a0, iv a1] σ (fX1_averageLoads fu th a0 a1 σ) := by
  refine ctI_intro (own := RX1) (lv := [(0, rv B th), (1, iv a0), (2, iv a1)]) (by decide +kernel) rfl (Nat.le_of_ble_eq_true rfl) rfl (fun X hX => ?_)
  unfold fX1_averageLoads
  refine s_iconst dX1_averageLoads_0 ?_
  refine s_istore_n (lv' := [(3, iv 0), (0, rv B th), (1, iv a0), (2, iv a1)]) dX1_averageLoads_1 rfl (by decide) rfl ?_
  refine s_iconst dX1_averageLoads_2 ?_
  refine s_istore (lv' := [(4, iv 0), (3, iv 0), (0, rv B th), (1, iv a0), (2, iv a1)]) dX1_averageLoads_3 (by decide) rfl ?_
  refine s_sub [2, 3, 4, 1, 0] (lv' := [(0, rv B th), (1, iv a0), (2, iv a1), (3, iv 0), (4, iv 0)]) rfl ?_
  refine fX1_averageLoads_L5_s hX th hth a0 a1 _ ?_ fu 0 0 σ
  intro x12 s8
  refine s_iload_n 0 dX1_averageLoads_109 rfl rfl ?_
  exact s_iret hX dX1_averageLoads_110
abbrev rmX2_hasLine : Room := { frames := 0, cells := 0, slots := 0, locals := 0 }
abbrev SX2_hasLine (B : Nat) (X : Ctx) := Sim cX2_hasLine RX2 2 rmX2_hasLine B X
set_option maxHeartbeats 4000000 in
set_option maxRecDepth 100000 in
theorem ctX2_hasLine (B fu : Nat) (a0 : Int) (σ : Mem) : CtI yX2_hasLine cX2_hasLine 2 (some .boolean) rmX2_hasLine B [rv B 136, iv a0] σ (fX2_hasLine fu a0 σ) := by
  refine ctI_intro (own := RX2) (lv := [(0, rv B 136), (1, iv a0)]) (by decide +kernel) rfl (Nat.le_of_ble_eq_true rfl) rfl (fun X hX => ?_)
  unfold fX2_hasLine
  refine s_iload_n 1 dX2_hasLine_0 rfl rfl ?_
  refine s_jn (fun (j1 : Int → Mem → PR) => ∀ (x1 : Int) (s4 : Mem), SX2_hasLine B X (j1 x1 s4) s4 17 [] [iv x1]) ?_ (fun j1 hj1 => ?_)
  · intro x1 s1
    exact s_zret hX dX2_hasLine_17
  · refine s_jn (fun (j2 : Mem → PR) => ∀ (s3 : Mem), SX2_hasLine B X (j2 s3) s3 16 [] []) ?_ (fun j2 hj2 => ?_)
    · intro s2
      refine s_iconst dX2_hasLine_16 ?_
      exact hj1 0 s2
    · refine s_if_lt (tgt := 16) dX2_hasLine_1 (by decide) ?_ ?_
      · exact s_sub [] rfl (hj2 σ)
      · refine s_iload_n 1 dX2_hasLine_4 rfl rfl ?_
        refine s_aload_n 0 dX2_hasLine_5 rfl rfl ?_
        refine s_geti dX2_hasLine_6 ly2 fl_X2_41 kd_136 rfl ?_
        refine s_icmp_ge (tgt := 16) dX2_hasLine_9 (by decide) ?_ ?_
        · exact s_sub [] rfl (hj2 σ)
        · refine s_iconst dX2_hasLine_12 ?_
          refine s_goto (tgt := 17) dX2_hasLine_13 (by decide) ?_
          exact s_sub [] rfl (hj1 1 σ)
abbrev rmX2_hasHalt : Room := { frames := 1, cells := 0, slots := 0, locals := 21 }
abbrev SX2_hasHalt (B : Nat) (X : Ctx) := Sim cX2_hasHalt RX2 3 rmX2_hasHalt B X
set_option maxHeartbeats 4000000 in
set_option maxRecDepth 100000 in
theorem ctX2_hasHalt (B fu : Nat) (a0 : Int) (a1 : Int) (σ : Mem) : CtI yX2_hasHalt cX2_hasHalt 3 (some .boolean) rmX2_hasHalt B [rv B 136, iv a0, iv a1] σ (fX2_hasHalt fu a0 a1 σ) := by
  refine ctI_intro (own := RX2) (lv := [(0, rv B 136), (1, iv a0), (2, iv a1)]) (by decide +kernel) rfl (Nat.le_of_ble_eq_true rfl) rfl (fun X hX => ?_)
  unfold fX2_hasHalt
  refine s_aload_n 0 dX2_hasHalt_0 rfl rfl ?_
  refine s_iload_n 1 dX2_hasHalt_1 rfl rfl ?_
  refine s_Vi (rest := []) dX2_hasHalt_2 lk_X2_44 meX2_hasLine (ctX2_hasLine B fu a0 σ) kd_136 ⟨rfl, by decide⟩ rfl rfl ⟨rfl, rfl, by decide, by decide⟩ (Nat.le_of_ble_eq_true rfl) (fun x1 s1 => ?_)
  refine s_jn (fun (j1 : Int → Mem → PR) => ∀ (x2 : Int) (s6 : Mem), SX2_hasHalt B X (j1 x2 s6) s6 26 [] [iv x2]) ?_ (fun j1 hj1 => ?_)
  · intro x2 s2
    exact s_zret hX dX2_hasHalt_26
  · refine s_jn (fun (j2 : Mem → PR) => ∀ (s5 : Mem), SX2_hasHalt B X (j2 s5) s5 25 [] []) ?_ (fun j2 hj2 => ?_)
    · intro s3
      refine s_iconst dX2_hasHalt_25 ?_
      exact hj1 0 s3
    · refine s_if_eq (tgt := 25) dX2_hasHalt_5 (by decide) ?_ ?_
      · exact s_sub [] rfl (hj2 s1)
      · refine s_aload_n 0 dX2_hasHalt_8 rfl rfl ?_
        refine s_getd dX2_hasHalt_9 ly2 fl_X2_13 kd_136 rfl rfl (fun p1 hp1 => ?_)
        refine s_iload_n 1 dX2_hasHalt_12 rfl rfl ?_
        refine s_aald dX2_hasHalt_13 hp1 (fun p2 hp2 => ?_)
        refine s_iload_n 2 dX2_hasHalt_14 rfl rfl ?_
        refine s_Vi (rest := []) dX2_hasHalt_15 lk_X2_48 meX1_isHalt (ctX1_isHalt B fu p2 hp2 a1 s1) hp2 ⟨rfl, by decide⟩ rfl rfl ⟨rfl, rfl, by decide, by decide⟩ (Nat.le_of_ble_eq_true rfl) (fun x3 s4 => ?_)
        refine s_if_eq (tgt := 25) dX2_hasHalt_18 (by decide) ?_ ?_
        · exact s_sub [] rfl (hj2 s4)
        · refine s_iconst dX2_hasHalt_21 ?_
          refine s_goto (tgt := 26) dX2_hasHalt_22 (by decide) ?_
          exact s_sub [] rfl (hj1 1 s4)
abbrev rmX2_hasStep : Room := { frames := 1, cells := 0, slots := 0, locals := 21 }
abbrev SX2_hasStep (B : Nat) (X : Ctx) := Sim cX2_hasStep RX2 3 rmX2_hasStep B X
set_option maxHeartbeats 4000000 in
set_option maxRecDepth 100000 in
theorem ctX2_hasStep (B fu : Nat) (a0 : Int) (a1 : Int) (σ : Mem) : CtI yX2_hasStep cX2_hasStep 3 (some .boolean) rmX2_hasStep B [rv B 136, iv a0, iv a1] σ (fX2_hasStep fu a0 a1 σ) := by
  refine ctI_intro (own := RX2) (lv := [(0, rv B 136), (1, iv a0), (2, iv a1)]) (by decide +kernel) rfl (Nat.le_of_ble_eq_true rfl) rfl (fun X hX => ?_)
  unfold fX2_hasStep
  refine s_aload_n 0 dX2_hasStep_0 rfl rfl ?_
  refine s_iload_n 1 dX2_hasStep_1 rfl rfl ?_
  refine s_Vi (rest := []) dX2_hasStep_2 lk_X2_44 meX2_hasLine (ctX2_hasLine B fu a0 σ) kd_136 ⟨rfl, by decide⟩ rfl rfl ⟨rfl, rfl, by decide, by decide⟩ (Nat.le_of_ble_eq_true rfl) (fun x1 s1 => ?_)
  refine s_jn (fun (j1 : Int → Mem → PR) => ∀ (x2 : Int) (s6 : Mem), SX2_hasStep B X (j1 x2 s6) s6 26 [] [iv x2]) ?_ (fun j1 hj1 => ?_)
  · intro x2 s2
    exact s_zret hX dX2_hasStep_26
  · refine s_jn (fun (j2 : Mem → PR) => ∀ (s5 : Mem), SX2_hasStep B X (j2 s5) s5 25 [] []) ?_ (fun j2 hj2 => ?_)
    · intro s3
      refine s_iconst dX2_hasStep_25 ?_
      exact hj1 0 s3
    · refine s_if_eq (tgt := 25) dX2_hasStep_5 (by decide) ?_ ?_
      · exact s_sub [] rfl (hj2 s1)
      · refine s_aload_n 0 dX2_hasStep_8 rfl rfl ?_
        refine s_getd dX2_hasStep_9 ly2 fl_X2_13 kd_136 rfl rfl (fun p1 hp1 => ?_)
        refine s_iload_n 1 dX2_hasStep_12 rfl rfl ?_
        refine s_aald dX2_hasStep_13 hp1 (fun p2 hp2 => ?_)
        refine s_iload_n 2 dX2_hasStep_14 rfl rfl ?_
        refine s_Vi (rest := []) dX2_hasStep_15 lk_X2_51 meX1_isStep (ctX1_isStep B fu p2 hp2 a1 s1) hp2 ⟨rfl, by decide⟩ rfl rfl ⟨rfl, rfl, by decide, by decide⟩ (Nat.le_of_ble_eq_true rfl) (fun x3 s4 => ?_)
        refine s_if_eq (tgt := 25) dX2_hasStep_18 (by decide) ?_ ?_
        · exact s_sub [] rfl (hj2 s4)
        · refine s_iconst dX2_hasStep_21 ?_
          refine s_goto (tgt := 26) dX2_hasStep_22 (by decide) ?_
          exact s_sub [] rfl (hj1 1 s4)
abbrev rmX2_replaceLines : Room := { frames := 0, cells := 0, slots := 0, locals := 0 }
abbrev SX2_replaceLines (B : Nat) (X : Ctx) := Sim cX2_replaceLines RX2 4 rmX2_replaceLines B X
set_option maxHeartbeats 4000000 in
set_option maxRecDepth 100000 in
theorem fX2_replaceLines_L33_s {B fu : Nat} {X : Ctx} (hX : CxV B X) (k55 : Mem → PR) (hk55 : ∀ (s8 : Mem), SX2_replaceLines B X (k55 s8) s8 55 [] []) : ∀ (n : Nat) (x1 : Int) (s7 : Mem), SX2_replaceLines B X (fX2_replaceLines_L33 fu k55 n x1 s7) s7 33 [(0, rv B 136), (3, iv x1)] [] := by
  intro n
  induction n with
  | zero => intro _ _; exact s_none
  | succ n ih =>
    intro x1 s5
    rw [fX2_replaceLines_L33]
    refine s_iload_n 1 dX2_replaceLines_33 rfl rfl ?_
    refine s_bipush dX2_replaceLines_34 (by decide) ?_
    refine s_icmp_ge (tgt := 55) dX2_replaceLines_36 (by decide) ?_ ?_
    · exact s_sub [] rfl (hk55 s5)
    · refine s_aload_n 0 dX2_replaceLines_39 rfl rfl ?_
      refine s_getr (n := 133) (k' := 270) dX2_replaceLines_40 ly2 fl_X2_21 kd_136 rfl rfl rfl ?_
      refine s_iload_n 1 dX2_replaceLines_43 rfl rfl ?_
      refine s_aals dX2_replaceLines_44 (fun p3 hp3 => ?_)
      refine s_iconst dX2_replaceLines_45 ?_
      refine s_putz dX2_replaceLines_46 ly4 ty4 fl_X2_63 hp3 rfl po4_1 ⟨rfl, rfl, by decide⟩ (fun s6 => ?_)
      refine s_iinc (lv' := [(3, iv (x1 + 1)), (0, rv B 136)]) 1 dX2_replaceLines_49 rfl (by decide) rfl ?_
      refine s_goto (tgt := 33) dX2_replaceLines_52 (by decide) ?_
      exact s_sub [1, 0] rfl (ih (x1 + 1) s6)
set_option maxHeartbeats 4000000 in
set_option maxRecDepth 100000 in
theorem ctX2_replaceLines (B fu : Nat) (σ : Mem) : CtV yX2_replaceLines cX2_replaceLines 4 none rmX2_replaceLines B [rv B 136, rv B 1] σ (fX2_replaceLines fu σ) := by
  refine ctV_intro (own := RX2) (lv := [(0, rv B 136), (1, rv B 1)]) (by decide +kernel) rfl (Nat.le_of_ble_eq_true rfl) rfl (fun X hX => ?_)
  unfold fX2_replaceLines
  refine s_aload_n 0 dX2_replaceLines_0 rfl rfl ?_
  refine s_getd dX2_replaceLines_1 ly2 fl_X2_13 kd_136 rfl rfl (fun p1 hp1 => ?_)
  refine s_astore_n (lv' := [(2, rv B p1), (0, rv B 136), (1, rv B 1)]) dX2_replaceLines_4 rfl (by decide) rfl ?_
  refine s_aload_n 1 dX2_replaceLines_5 rfl rfl ?_
  refine s_aload_n 2 dX2_replaceLines_6 rfl rfl ?_
  refine s_getd dX2_replaceLines_7 ly5 fl_X2_54 kd_1 rfl rfl (fun p2 hp2 => ?_)
  refine s_putd dX2_replaceLines_10 ly2 ty2 fl_X2_13 kd_136 rfl po2_0 ⟨rfl, by decide⟩ hp2 (fun s1 => ?_)
  refine s_aload_n 2 dX2_replaceLines_13 rfl rfl ?_
  refine s_aload_n 0 dX2_replaceLines_14 rfl rfl ?_
  refine s_putd dX2_replaceLines_15 ly5 ty5 fl_X2_54 kd_1 rfl po5_2 ⟨rfl, by decide⟩ hp1 (fun s2 => ?_)
  refine s_aload_n 1 dX2_replaceLines_18 rfl rfl ?_
  refine s_aload_n 2 dX2_replaceLines_19 rfl rfl ?_
  refine s_geti dX2_replaceLines_20 ly5 fl_X2_57 kd_1 rfl ?_
  refine s_puti dX2_replaceLines_23 ly2 ty2 fl_X2_41 kd_136 rfl po2_1 ⟨rfl, rfl, by decide⟩ (fun s3 => ?_)
  refine s_aload_n 1 dX2_replaceLines_26 rfl rfl ?_
  refine s_iconst dX2_replaceLines_27 ?_
  refine s_puti dX2_replaceLines_28 ly2 ty2 fl_X2_60 kd_136 rfl po2_6 ⟨rfl, rfl, by decide⟩ (fun s4 => ?_)
  refine s_iconst dX2_replaceLines_31 ?_
  refine s_istore_n (lv' := [(3, iv 0), (2, rv B p1), (0, rv B 136), (1, rv B 1)]) dX2_replaceLines_32 rfl (by decide) rfl ?_
  refine s_sub [2, 0] (lv' := [(0, rv B 136), (3, iv 0)]) rfl ?_
  refine fX2_replaceLines_L33_s hX _ ?_ fu 0 s4
  intro s9
  exact s_vret hX dX2_replaceLines_55
abbrev rmX2_appendLines : Room := { frames := 0, cells := 0, slots := 0, locals := 0 }
abbrev SX2_appendLines (B : Nat) (X : Ctx) := Sim cX2_appendLines RX2 4 rmX2_appendLines B X
set_option maxHeartbeats 4000000 in
set_option maxRecDepth 100000 in
theorem fX2_appendLines_L2_s {B fu : Nat} {X : Ctx} (hX : CxV B X) (k67 : Mem → PR) (hk67 : ∀ (s6 : Mem), SX2_appendLines B X (k67 s6) s6 67 [] []) : ∀ (n : Nat) (x1 : Int) (s5 : Mem), SX2_appendLines B X (fX2_appendLines_L2 fu k67 n x1 s5) s5 2 [(0, rv B 136), (1, rv B 1), (2, iv x1)] [] := by
  intro n
  induction n with
  | zero => intro _ _; exact s_none
  | succ n ih =>
    intro x1 s1
    rw [fX2_appendLines_L2]
    refine s_iload_n 2 dX2_appendLines_2 rfl rfl ?_
    refine s_aload_n 1 dX2_appendLines_3 rfl rfl ?_
    refine s_geti dX2_appendLines_4 ly5 fl_X2_57 kd_1 rfl ?_
    refine s_icmp_ge (tgt := 67) dX2_appendLines_7 (by decide) ?_ ?_
    · exact s_sub [] rfl (hk67 s1)
    · refine s_aload_n 0 dX2_appendLines_10 rfl rfl ?_
      refine s_geti dX2_appendLines_11 ly2 fl_X2_41 kd_136 rfl ?_
      refine s_bipush dX2_appendLines_14 (by decide) ?_
      refine s_icmp_ge (tgt := 67) dX2_appendLines_16 (by decide) ?_ ?_
      · exact s_sub [] rfl (hk67 s1)
      · refine s_aload_n 0 dX2_appendLines_19 rfl rfl ?_
        refine s_getd dX2_appendLines_20 ly2 fl_X2_13 kd_136 rfl rfl (fun p1 hp1 => ?_)
        refine s_aload_n 0 dX2_appendLines_23 rfl rfl ?_
        refine s_geti dX2_appendLines_24 ly2 fl_X2_41 kd_136 rfl ?_
        refine s_aald dX2_appendLines_27 hp1 (fun p2 hp2 => ?_)
        refine s_astore_n (lv' := [(3, rv B p2), (0, rv B 136), (1, rv B 1), (2, iv x1)]) dX2_appendLines_28 rfl (by decide) rfl ?_
        refine s_aload_n 1 dX2_appendLines_29 rfl rfl ?_
        refine s_getd dX2_appendLines_30 ly2 fl_X2_13 kd_136 rfl rfl (fun p3 hp3 => ?_)
        refine s_aload_n 1 dX2_appendLines_33 rfl rfl ?_
        refine s_geti dX2_appendLines_34 ly2 fl_X2_41 kd_136 rfl ?_
        refine s_aload_n 2 dX2_appendLines_37 rfl rfl ?_
        refine s_getd dX2_appendLines_38 ly5 fl_X2_54 kd_1 rfl rfl (fun p4 hp4 => ?_)
        refine s_iload_n 3 dX2_appendLines_41 rfl rfl ?_
        refine s_aald dX2_appendLines_42 hp4 (fun p5 hp5 => ?_)
        refine s_aast dX2_appendLines_43 hp3 hp5 (fun s2 => ?_)
        refine s_aload_n 2 dX2_appendLines_44 rfl rfl ?_
        refine s_getd dX2_appendLines_45 ly5 fl_X2_54 kd_1 rfl rfl (fun p6 hp6 => ?_)
        refine s_iload_n 3 dX2_appendLines_48 rfl rfl ?_
        refine s_aload_n 0 dX2_appendLines_49 rfl rfl ?_
        refine s_aast dX2_appendLines_50 hp6 hp2 (fun s3 => ?_)
        refine s_aload_n 1 dX2_appendLines_51 rfl rfl ?_
        refine s_dup dX2_appendLines_52 rfl ?_
        refine s_geti dX2_appendLines_53 ly2 fl_X2_41 kd_136 rfl ?_
        refine s_iconst dX2_appendLines_56 ?_
        refine s_iadd dX2_appendLines_57 ?_
        refine s_puti dX2_appendLines_58 ly2 ty2 fl_X2_41 kd_136 rfl po2_1 ⟨rfl, rfl, by decide⟩ (fun s4 => ?_)
        refine s_iinc (lv' := [(2, iv (x1 + 1)), (3, rv B p2), (0, rv B 136), (1, rv B 1)]) 3 dX2_appendLines_61 rfl (by decide) rfl ?_
        refine s_goto (tgt := 2) dX2_appendLines_64 (by decide) ?_
        exact s_sub [2, 3, 0] rfl (ih (x1 + 1) s4)
set_option maxHeartbeats 4000000 in
set_option maxRecDepth 100000 in
theorem ctX2_appendLines (B fu : Nat) (σ : Mem) : CtV yX2_appendLines cX2_appendLines 4 none rmX2_appendLines B [rv B 136, rv B 1] σ (fX2_appendLines fu σ) := by
  refine ctV_intro (own := RX2) (lv := [(0, rv B 136), (1, rv B 1)]) (by decide +kernel) rfl (Nat.le_of_ble_eq_true rfl) rfl (fun X hX => ?_)
  unfold fX2_appendLines
  refine s_iconst dX2_appendLines_0 ?_
  refine s_istore_n (lv' := [(2, iv 0), (0, rv B 136), (1, rv B 1)]) dX2_appendLines_1 rfl (by decide) rfl ?_
  refine s_sub [1, 2, 0] (lv' := [(0, rv B 136), (1, rv B 1), (2, iv 0)]) rfl ?_
  refine fX2_appendLines_L2_s hX _ ?_ fu 0 σ
  intro s7
  exact s_vret hX dX2_appendLines_67
abbrev rmX2_removeLine : Room := { frames := 0, cells := 0, slots := 0, locals := 0 }
abbrev SX2_removeLine (B : Nat) (X : Ctx) := Sim cX2_removeLine RX2 4 rmX2_removeLine B X
set_option maxHeartbeats 4000000 in
set_option maxRecDepth 100000 in
theorem fX2_removeLine_L9_s {B fu : Nat} {X : Ctx} (hX : CxV B X) (p3 : Nat) (hp3 : kd p3 = 1) (k39 : Mem → PR) (hk39 : ∀ (s4 : Mem), SX2_removeLine B X (k39 s4) s4 39 [(0, rv B 136), (2, rv B p3)] []) : ∀ (n : Nat) (x1 : Int) (s3 : Mem), SX2_removeLine B X (fX2_removeLine_L9 fu p3 k39 n x1 s3) s3 9 [(0, rv B 136), (2, rv B p3), (3, iv x1)] [] := by
  intro n
  induction n with
  | zero => intro _ _; exact s_none
  | succ n ih =>
    intro x1 s1
    rw [fX2_removeLine_L9]
    refine s_iload_n 2 dX2_removeLine_9 rfl rfl ?_
    refine s_iconst dX2_removeLine_10 ?_
    refine s_iadd dX2_removeLine_11 ?_
    refine s_aload_n 0 dX2_removeLine_12 rfl rfl ?_
    refine s_geti dX2_removeLine_13 ly2 fl_X2_41 kd_136 rfl ?_
    refine s_icmp_ge (tgt := 39) dX2_removeLine_16 (by decide) ?_ ?_
    · exact s_sub [0, 1] rfl (hk39 s1)
    · refine s_aload_n 0 dX2_removeLine_19 rfl rfl ?_
      refine s_getd dX2_removeLine_20 ly2 fl_X2_13 kd_136 rfl rfl (fun p4 hp4 => ?_)
      refine s_iload_n 2 dX2_removeLine_23 rfl rfl ?_
      refine s_aload_n 0 dX2_removeLine_24 rfl rfl ?_
      refine s_getd dX2_removeLine_25 ly2 fl_X2_13 kd_136 rfl rfl (fun p5 hp5 => ?_)
      refine s_iload_n 2 dX2_removeLine_28 rfl rfl ?_
      refine s_iconst dX2_removeLine_29 ?_
      refine s_iadd dX2_removeLine_30 ?_
      refine s_aald dX2_removeLine_31 hp5 (fun p6 hp6 => ?_)
      refine s_aast dX2_removeLine_32 hp4 hp6 (fun s2 => ?_)
      refine s_iinc (lv' := [(3, iv (x1 + 1)), (0, rv B 136), (2, rv B p3)]) 2 dX2_removeLine_33 rfl (by decide) rfl ?_
      refine s_goto (tgt := 9) dX2_removeLine_36 (by decide) ?_
      exact s_sub [1, 2, 0] rfl (ih (x1 + 1) s2)
set_option maxHeartbeats 4000000 in
set_option maxRecDepth 100000 in
theorem ctX2_removeLine (B fu : Nat) (a0 : Int) (σ : Mem) : CtV yX2_removeLine cX2_removeLine 4 none rmX2_removeLine B [rv B 136, iv a0] σ (fX2_removeLine fu a0 σ) := by
  refine ctV_intro (own := RX2) (lv := [(0, rv B 136), (1, iv a0)]) (by decide +kernel) rfl (Nat.le_of_ble_eq_true rfl) rfl (fun X hX => ?_)
  unfold fX2_removeLine
  refine s_aload_n 0 dX2_removeLine_0 rfl rfl ?_
  refine s_getd dX2_removeLine_1 ly2 fl_X2_13 kd_136 rfl rfl (fun p1 hp1 => ?_)
  refine s_iload_n 1 dX2_removeLine_4 rfl rfl ?_
  refine s_aald dX2_removeLine_5 hp1 (fun p2 hp2 => ?_)
  refine s_astore_n (lv' := [(2, rv B p2), (0, rv B 136), (1, iv a0)]) dX2_removeLine_6 rfl (by decide) rfl ?_
  refine s_iload_n 2 dX2_removeLine_7 rfl rfl ?_
  refine s_istore_n (lv' := [(3, iv a0), (2, rv B p2), (0, rv B 136), (1, iv a0)]) dX2_removeLine_8 rfl (by decide) rfl ?_
  refine s_sub [2, 1, 0] (lv' := [(0, rv B 136), (2, rv B p2), (3, iv a0)]) rfl ?_
  refine fX2_removeLine_L9_s hX p2 hp2 _ ?_ fu a0 σ
  intro s5
  refine s_aload_n 0 dX2_removeLine_39 rfl rfl ?_
  refine s_dup dX2_removeLine_40 rfl ?_
  refine s_geti dX2_removeLine_41 ly2 fl_X2_41 kd_136 rfl ?_
  refine s_iconst dX2_removeLine_44 ?_
  refine s_isub dX2_removeLine_45 ?_
  refine s_puti dX2_removeLine_46 ly2 ty2 fl_X2_41 kd_136 rfl po2_1 ⟨rfl, rfl, by decide⟩ (fun s6 => ?_)
  refine s_aload_n 0 dX2_removeLine_49 rfl rfl ?_
  refine s_getd dX2_removeLine_50 ly2 fl_X2_13 kd_136 rfl rfl (fun p7 hp7 => ?_)
  refine s_aload_n 0 dX2_removeLine_53 rfl rfl ?_
  refine s_geti dX2_removeLine_54 ly2 fl_X2_41 kd_136 rfl ?_
  refine s_aload_n 1 dX2_removeLine_57 rfl rfl ?_
  refine s_aast dX2_removeLine_58 hp7 hp2 (fun s7 => ?_)
  exact s_vret hX dX2_removeLine_59
abbrev rmX6_bit : Room := { frames := 0, cells := 0, slots := 0, locals := 0 }
abbrev SX6_bit (B : Nat) (X : Ctx) := Sim cX6_bit RX6 1 rmX6_bit B X
set_option maxHeartbeats 4000000 in
set_option maxRecDepth 100000 in
theorem ctX6_bit (B fu : Nat) (a0 : Int) (σ : Mem) : CtI yX6_bit cX6_bit 1 (some .int) rmX6_bit B [iv a0] σ (fX6_bit fu a0 σ) := by
  refine ctI_intro (own := RX6) (lv := [(0, iv a0)]) (by decide +kernel) rfl (Nat.le_of_ble_eq_true rfl) rfl (fun X hX => ?_)
  unfold fX6_bit
  refine s_iload_n 0 dX6_bit_0 rfl rfl ?_
  refine s_jn (fun (j1 : Int → Mem → PR) => ∀ (x1 : Int) (s2 : Mem), SX6_bit B X (j1 x1 s2) s2 9 [] [iv x1]) ?_ (fun j1 hj1 => ?_)
  · intro x1 s1
    exact s_iret hX dX6_bit_9
  · refine s_if_eq (tgt := 8) dX6_bit_1 (by decide) ?_ ?_
    · refine s_iconst dX6_bit_8 ?_
      exact s_sub [] rfl (hj1 0 σ)
    · refine s_iconst dX6_bit_4 ?_
      refine s_goto (tgt := 9) dX6_bit_5 (by decide) ?_
      exact s_sub [] rfl (hj1 1 σ)
abbrev rmX2_outLines : Room := { frames := 1, cells := 0, slots := 0, locals := 20 }
abbrev SX2_outLines (B : Nat) (X : Ctx) := Sim cX2_outLines RX2 3 rmX2_outLines B X
set_option maxHeartbeats 4000000 in
set_option maxRecDepth 100000 in
theorem fX2_outLines_L4_s {B fu : Nat} {X : Ctx} (hX : CxI .int B X) (k35 : Int → Mem → PR) (hk35 : ∀ (x3 : Int) (s4 : Mem), SX2_outLines B X (k35 x3 s4) s4 35 [(1, iv x3)] []) : ∀ (n : Nat) (x1 : Int) (x2 : Int) (s3 : Mem), SX2_outLines B X (fX2_outLines_L4 fu k35 n x1 x2 s3) s3 4 [(0, rv B 136), (1, iv x1), (2, iv x2)] [] := by
  intro n
  induction n with
  | zero => intro _ _ _; exact s_none
  | succ n ih =>
    intro x1 x2 s1
    rw [fX2_outLines_L4]
    refine s_iload_n 2 dX2_outLines_4 rfl rfl ?_
    refine s_aload_n 0 dX2_outLines_5 rfl rfl ?_
    refine s_geti dX2_outLines_6 ly2 fl_X2_41 kd_136 rfl ?_
    refine s_icmp_ge (tgt := 35) dX2_outLines_9 (by decide) ?_ ?_
    · exact s_sub [1] rfl (hk35 x1 s1)
    · refine s_iload_n 1 dX2_outLines_12 rfl rfl ?_
      refine s_aload_n 0 dX2_outLines_13 rfl rfl ?_
      refine s_getd dX2_outLines_14 ly2 fl_X2_13 kd_136 rfl rfl (fun p1 hp1 => ?_)
      refine s_iload_n 2 dX2_outLines_17 rfl rfl ?_
      refine s_aald dX2_outLines_18 hp1 (fun p2 hp2 => ?_)
      refine s_geti dX2_outLines_19 ly1 fl_X2_67 hp2 rfl ?_
      refine s_Ni (rest := [iv x1]) dX2_outLines_22 nk_X2_70 meX6_bit (ctX6_bit B fu (s1 p2 4) s1) rfl rfl ⟨rfl, rfl, by decide, by decide⟩ (Nat.le_of_ble_eq_true rfl) (fun x4 s2 => ?_)
      refine s_iload_n 2 dX2_outLines_25 rfl rfl ?_
      refine s_ishl dX2_outLines_26 ?_
      refine s_ior dX2_outLines_27 ?_
      refine s_lti (fun x5 => ?_)
      refine s_istore_n (lv' := [(1, iv x5), (0, rv B 136), (2, iv x2)]) dX2_outLines_28 rfl (by decide) rfl ?_
      refine s_iinc (lv' := [(2, iv (x2 + 1)), (1, iv x5), (0, rv B 136)]) 2 dX2_outLines_29 rfl (by decide) rfl ?_
      refine s_goto (tgt := 4) dX2_outLines_32 (by decide) ?_
      exact s_sub [2, 1, 0] rfl (ih x5 (x2 + 1) s2)
set_option maxHeartbeats 4000000 in
set_option maxRecDepth 100000 in
theorem ctX2_outLines (B fu : Nat) (σ : Mem) : CtI yX2_outLines cX2_outLines 3 (some .int) rmX2_outLines B [rv B 136] σ (fX2_outLines fu σ) := by
  refine ctI_intro (own := RX2) (lv := [(0, rv B 136)]) (by decide +kernel) rfl (Nat.le_of_ble_eq_true rfl) rfl (fun X hX => ?_)
  unfold fX2_outLines
  refine s_iconst dX2_outLines_0 ?_
  refine s_istore_n (lv' := [(1, iv 0), (0, rv B 136)]) dX2_outLines_1 rfl (by decide) rfl ?_
  refine s_iconst dX2_outLines_2 ?_
  refine s_istore_n (lv' := [(2, iv 0), (1, iv 0), (0, rv B 136)]) dX2_outLines_3 rfl (by decide) rfl ?_
  refine s_sub [2, 1, 0] (lv' := [(0, rv B 136), (1, iv 0), (2, iv 0)]) rfl ?_
  refine fX2_outLines_L4_s hX _ ?_ fu 0 0 σ
  intro x6 s5
  refine s_iload_n 0 dX2_outLines_35 rfl rfl ?_
  exact s_iret hX dX2_outLines_36
abbrev rmX2_bringBack : Room := { frames := 0, cells := 0, slots := 0, locals := 0 }
abbrev SX2_bringBack (B : Nat) (X : Ctx) := Sim cX2_bringBack RX2 3 rmX2_bringBack B X
set_option maxHeartbeats 4000000 in
set_option maxRecDepth 100000 in
theorem fX2_bringBack_L2_s {B fu : Nat} {X : Ctx} (hX : CxV B X) (c1 : Int) (k35 : Mem → PR) (hk35 : ∀ (s6 : Mem), SX2_bringBack B X (k35 s6) s6 35 [] []) : ∀ (n : Nat) (x1 : Int) (s5 : Mem), SX2_bringBack B X (fX2_bringBack_L2 fu c1 k35 n x1 s5) s5 2 [(0, rv B 136), (1, iv c1), (2, iv x1)] [] := by
  intro n
  induction n with
  | zero => intro _ _; exact s_none
  | succ n ih =>
    intro x1 s1
    rw [fX2_bringBack_L2]
    refine s_iload_n 2 dX2_bringBack_2 rfl rfl ?_
    refine s_aload_n 0 dX2_bringBack_3 rfl rfl ?_
    refine s_geti dX2_bringBack_4 ly2 fl_X2_41 kd_136 rfl ?_
    refine s_icmp_ge (tgt := 35) dX2_bringBack_7 (by decide) ?_ ?_
    · exact s_sub [] rfl (hk35 s1)
    · refine s_iload_n 1 dX2_bringBack_10 rfl rfl ?_
      refine s_iload_n 2 dX2_bringBack_11 rfl rfl ?_
      refine s_ishr dX2_bringBack_12 ?_
      refine s_iconst dX2_bringBack_13 ?_
      refine s_iand dX2_bringBack_14 ?_
      refine s_iconst dX2_bringBack_15 ?_
      refine s_jn (fun (j1 : Mem → PR) => ∀ (s4 : Mem), SX2_bringBack B X (j1 s4) s4 29 [(0, rv B 136), (1, iv c1), (2, iv x1)] []) ?_ (fun j1 hj1 => ?_)
      · intro s2
        refine s_iinc (lv' := [(2, iv (x1 + 1)), (0, rv B 136), (1, iv c1)]) 2 dX2_bringBack_29 rfl (by decide) rfl ?_
        refine s_goto (tgt := 2) dX2_bringBack_32 (by decide) ?_
        exact s_sub [1, 2, 0] rfl (ih (x1 + 1) s2)
      · refine s_icmp_ne (tgt := 29) dX2_bringBack_16 (by decide) ?_ ?_
        · exact hj1 s1
        · refine s_aload_n 0 dX2_bringBack_19 rfl rfl ?_
          refine s_getd dX2_bringBack_20 ly2 fl_X2_13 kd_136 rfl rfl (fun p1 hp1 => ?_)
          refine s_iload_n 2 dX2_bringBack_23 rfl rfl ?_
          refine s_aald dX2_bringBack_24 hp1 (fun p2 hp2 => ?_)
          refine s_iconst dX2_bringBack_25 ?_
          refine s_putz dX2_bringBack_26 ly1 ty1 fl_X2_67 hp2 rfl po1_4 ⟨rfl, rfl, by decide⟩ (fun s3 => ?_)
          exact hj1 s3
set_option maxHeartbeats 4000000 in
set_option maxRecDepth 100000 in
theorem ctX2_bringBack (B fu : Nat) (a0 : Int) (σ : Mem) : CtV yX2_bringBack cX2_bringBack 3 none rmX2_bringBack B [rv B 136, iv a0] σ (fX2_bringBack fu a0 σ) := by
  refine ctV_intro (own := RX2) (lv := [(0, rv B 136), (1, iv a0)]) (by decide +kernel) rfl (Nat.le_of_ble_eq_true rfl) rfl (fun X hX => ?_)
  unfold fX2_bringBack
  refine s_iconst dX2_bringBack_0 ?_
  refine s_istore_n (lv' := [(2, iv 0), (0, rv B 136), (1, iv a0)]) dX2_bringBack_1 rfl (by decide) rfl ?_
  refine s_sub [1, 2, 0] (lv' := [(0, rv B 136), (1, iv a0), (2, iv 0)]) rfl ?_
  refine fX2_bringBack_L2_s hX a0 _ ?_ fu 0 σ
  intro s7
  exact s_vret hX dX2_bringBack_35
abbrev rmX2_closedStops : Room := { frames := 1, cells := 0, slots := 0, locals := 20 }
abbrev SX2_closedStops (B : Nat) (X : Ctx) := Sim cX2_closedStops RX2 3 rmX2_closedStops B X
set_option maxHeartbeats 4000000 in
set_option maxRecDepth 100000 in
theorem fX2_closedStops_L4_s {B fu : Nat} {X : Ctx} (hX : CxI .int B X) (k33 : Int → Mem → PR) (hk33 : ∀ (x3 : Int) (s4 : Mem), SX2_closedStops B X (k33 x3 s4) s4 33 [(1, iv x3)] []) : ∀ (n : Nat) (x1 : Int) (x2 : Int) (s3 : Mem), SX2_closedStops B X (fX2_closedStops_L4 fu k33 n x1 x2 s3) s3 4 [(0, rv B 136), (1, iv x1), (2, iv x2)] [] := by
  intro n
  induction n with
  | zero => intro _ _ _; exact s_none
  | succ n ih =>
    intro x1 x2 s1
    rw [fX2_closedStops_L4]
    refine s_iload_n 2 dX2_closedStops_4 rfl rfl ?_
    refine s_bipush dX2_closedStops_5 (by decide) ?_
    refine s_icmp_ge (tgt := 33) dX2_closedStops_7 (by decide) ?_ ?_
    · exact s_sub [1] rfl (hk33 x1 s1)
    · refine s_iload_n 1 dX2_closedStops_10 rfl rfl ?_
      refine s_aload_n 0 dX2_closedStops_11 rfl rfl ?_
      refine s_getr (n := 133) (k' := 270) dX2_closedStops_12 ly2 fl_X2_21 kd_136 rfl rfl rfl ?_
      refine s_iload_n 2 dX2_closedStops_15 rfl rfl ?_
      refine s_aals dX2_closedStops_16 (fun p1 hp1 => ?_)
      refine s_geti dX2_closedStops_17 ly4 fl_X2_63 hp1 rfl ?_
      refine s_Ni (rest := [iv x1]) dX2_closedStops_20 nk_X2_70 meX6_bit (ctX6_bit B fu (s1 p1 1) s1) rfl rfl ⟨rfl, rfl, by decide, by decide⟩ (Nat.le_of_ble_eq_true rfl) (fun x4 s2 => ?_)
      refine s_iload_n 2 dX2_closedStops_23 rfl rfl ?_
      refine s_ishl dX2_closedStops_24 ?_
      refine s_ior dX2_closedStops_25 ?_
      refine s_lti (fun x5 => ?_)
      refine s_istore_n (lv' := [(1, iv x5), (0, rv B 136), (2, iv x2)]) dX2_closedStops_26 rfl (by decide) rfl ?_
      refine s_iinc (lv' := [(2, iv (x2 + 1)), (1, iv x5), (0, rv B 136)]) 2 dX2_closedStops_27 rfl (by decide) rfl ?_
      refine s_goto (tgt := 4) dX2_closedStops_30 (by decide) ?_
      exact s_sub [2, 1, 0] rfl (ih x5 (x2 + 1) s2)
set_option maxHeartbeats 4000000 in
set_option maxRecDepth 100000 in
theorem ctX2_closedStops (B fu : Nat) (σ : Mem) : CtI yX2_closedStops cX2_closedStops 3 (some .int) rmX2_closedStops B [rv B 136] σ (fX2_closedStops fu σ) := by
  refine ctI_intro (own := RX2) (lv := [(0, rv B 136)]) (by decide +kernel) rfl (Nat.le_of_ble_eq_true rfl) rfl (fun X hX => ?_)
  unfold fX2_closedStops
  refine s_iconst dX2_closedStops_0 ?_
  refine s_istore_n (lv' := [(1, iv 0), (0, rv B 136)]) dX2_closedStops_1 rfl (by decide) rfl ?_
  refine s_iconst dX2_closedStops_2 ?_
  refine s_istore_n (lv' := [(2, iv 0), (1, iv 0), (0, rv B 136)]) dX2_closedStops_3 rfl (by decide) rfl ?_
  refine s_sub [2, 1, 0] (lv' := [(0, rv B 136), (1, iv 0), (2, iv 0)]) rfl ?_
  refine fX2_closedStops_L4_s hX _ ?_ fu 0 0 σ
  intro x6 s5
  refine s_iload_n 0 dX2_closedStops_33 rfl rfl ?_
  exact s_iret hX dX2_closedStops_34
