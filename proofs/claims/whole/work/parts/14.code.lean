abbrev rmX6_spare : Room := { frames := 6, cells := 0, slots := 0, locals := 136 }
abbrev SX6_spare (B : Nat) (X : Ctx) := Sim cX6_spare RX6 8 rmX6_spare B X
set_option maxHeartbeats 4000000 in
set_option maxRecDepth 100000 in
theorem fX6_spare_L19_s {B fu : Nat} {X : Ctx} (hX : CxI .int B X) (c1 : Int) (c2 : Int) (k112 : Int → Mem → PR) (hk112 : ∀ (x5 : Int) (s11 : Mem), SX6_spare B X (k112 x5 s11) s11 112 [(0, rv B 0), (5, iv x5)] []) : ∀ (n : Nat) (x3 : Int) (x4 : Int) (s10 : Mem), SX6_spare B X (fX6_spare_L19 fu c1 c2 k112 n x3 x4 s10) s10 19 [(0, rv B 0), (1, jv c1), (3, jv c2), (5, iv x3), (6, iv x4)] [] := by
  intro n
  induction n with
  | zero => intro _ _ _; exact s_none
  | succ n ih =>
    intro x3 x4 s2
    rw [fX6_spare_L19]
    refine s_iload 4 dX6_spare_19 rfl ?_
    refine s_aload_n 0 dX6_spare_21 rfl rfl ?_
    refine s_getr (n := 135) (k' := 136) dX6_spare_22 ly6 fl_X6_19 kd_0 rfl rfl rfl ?_
    refine s_geti dX6_spare_25 ly2 fl_X6_56 kd_136 rfl ?_
    refine s_icmp_ge (tgt := 112) dX6_spare_28 (by decide) ?_ ?_
    · exact s_sub [0, 3] rfl (hk112 x3 s2)
    · refine s_aload_n 0 dX6_spare_31 rfl rfl ?_
      refine s_getr (n := 135) (k' := 136) dX6_spare_32 ly6 fl_X6_19 kd_0 rfl rfl rfl ?_
      refine s_getd dX6_spare_35 ly2 fl_X6_90 kd_136 rfl rfl (fun p1 hp1 => ?_)
      refine s_iload 4 dX6_spare_38 rfl ?_
      refine s_aald dX6_spare_40 hp1 (fun p2 hp2 => ?_)
      refine s_astore (lv' := [(7, rv B p2), (0, rv B 0), (1, jv c1), (3, jv c2), (5, iv x3), (6, iv x4)]) dX6_spare_41 (by decide) rfl ?_
      refine s_aload 0 dX6_spare_43 rfl ?_
      refine s_geti dX6_spare_45 ly1 fl_X6_94 hp2 rfl ?_
      refine s_jn (fun (j1 : Int → Mem → PR) => ∀ (x6 : Int) (s9 : Mem), SX6_spare B X (j1 x6 s9) s9 106 [(0, rv B 0), (1, jv c1), (3, jv c2), (5, iv x6), (6, iv x4)] []) ?_ (fun j1 hj1 => ?_)
      · intro x6 s3
        refine s_iinc (lv' := [(6, iv (x4 + 1)), (0, rv B 0), (1, jv c1), (3, jv c2), (5, iv x6)]) 4 dX6_spare_106 rfl (by decide) rfl ?_
        refine s_goto (tgt := 19) dX6_spare_109 (by decide) ?_
        exact s_sub [1, 2, 3, 4, 0] rfl (ih x6 (x4 + 1) s3)
      · refine s_if_ne (tgt := 106) dX6_spare_48 (by decide) ?_ ?_
        · exact s_sub [1, 2, 3, 4, 5] rfl (hj1 x3 s2)
        · refine s_aload 0 dX6_spare_51 rfl ?_
          refine s_iconst dX6_spare_53 ?_
          refine s_putz dX6_spare_54 ly1 ty1 fl_X6_94 hp2 rfl po1_4 ⟨rfl, rfl, by decide⟩ (fun s4 => ?_)
          refine s_aload_n 1 dX6_spare_57 rfl rfl ?_
          refine s_getr (n := 135) (k' := 136) dX6_spare_58 ly6 fl_X6_19 kd_0 rfl rfl rfl ?_
          refine s_Vv (rest := []) dX6_spare_61 lk_X6_237 meX2_findTotal (ctX2_findTotal B fu s4) kd_136 ⟨rfl, by decide⟩ rfl rfl ⟨rfl, rfl, by decide, by decide⟩ (Nat.le_of_ble_eq_true rfl) (fun _ s5 => ?_)
          refine s_aload_n 1 dX6_spare_64 rfl rfl ?_
          refine s_getr (n := 135) (k' := 136) dX6_spare_65 ly6 fl_X6_19 kd_0 rfl rfl rfl ?_
          refine s_getl dX6_spare_68 ly2 fl_X6_250 kd_136 rfl ?_
          refine s_lload_n 2 dX6_spare_71 rfl rfl ?_
          refine s_jn (fun (j2 : Mem → PR) => ∀ (s8 : Mem), SX6_spare B X (j2 s8) s8 100 [(0, rv B 0), (1, jv c1), (3, jv c2), (5, iv x3), (6, iv x4), (7, rv B p2)] []) ?_ (fun j2 hj2 => ?_)
          · intro s6
            refine s_aload 5 dX6_spare_100 rfl ?_
            refine s_iconst dX6_spare_102 ?_
            refine s_putz dX6_spare_103 ly1 ty1 fl_X6_94 hp2 rfl po1_4 ⟨rfl, rfl, by decide⟩ (fun s7 => ?_)
            exact s_sub [0, 1, 2, 3, 4] rfl (hj1 x3 s7)
          · refine s_lif_ne (tgt := 100) dX6_spare_72 dX6_spare_73 (by decide) ?_ ?_
            · exact s_sub [1, 2, 3, 4, 5, 0] rfl (hj2 s5)
            · refine s_aload_n 1 dX6_spare_76 rfl rfl ?_
              refine s_getr (n := 135) (k' := 136) dX6_spare_77 ly6 fl_X6_19 kd_0 rfl rfl rfl ?_
              refine s_getl dX6_spare_80 ly2 fl_X6_243 kd_136 rfl ?_
              refine s_lload_n 3 dX6_spare_83 rfl rfl ?_
              refine s_lif_ne (tgt := 100) dX6_spare_84 dX6_spare_85 (by decide) ?_ ?_
              · exact s_sub [1, 2, 3, 4, 5, 0] rfl (hj2 s5)
              · refine s_iload 4 dX6_spare_88 rfl ?_
                refine s_iconst dX6_spare_90 ?_
                refine s_iload 5 dX6_spare_91 rfl ?_
                refine s_ishl dX6_spare_93 ?_
                refine s_ior dX6_spare_94 ?_
                refine s_lti (fun x7 => ?_)
                refine s_istore (lv' := [(5, iv x7), (7, rv B p2), (0, rv B 0), (1, jv c1), (3, jv c2), (6, iv x4)]) dX6_spare_95 (by decide) rfl ?_
                refine s_goto (tgt := 106) dX6_spare_97 (by decide) ?_
                exact s_sub [2, 3, 4, 0, 5] rfl (hj1 x7 s5)
set_option maxHeartbeats 4000000 in
set_option maxRecDepth 100000 in
theorem ctX6_spare (B fu : Nat) (σ : Mem) : CtI yX6_spare cX6_spare 8 (some .int) rmX6_spare B [rv B 0] σ (fX6_spare fu σ) := by
  refine ctI_intro (own := RX6) (lv := [(0, rv B 0)]) (by decide +kernel) rfl (Nat.le_of_ble_eq_true rfl) rfl (fun X hX => ?_)
  unfold fX6_spare
  refine s_aload_n 0 dX6_spare_0 rfl rfl ?_
  refine s_Vl (rest := []) dX6_spare_1 lk_X6_275 meX6_totalNow (ctX6_totalNow B fu σ) kd_0 ⟨rfl, by decide⟩ rfl rfl ⟨rfl, rfl, by decide, by decide⟩ (Nat.le_of_ble_eq_true rfl) (fun x1 s1 => ?_)
  refine s_lstore_n (lv' := [(1, jv x1), (0, rv B 0)]) dX6_spare_4 rfl (by decide) rfl ?_
  refine s_aload_n 1 dX6_spare_5 rfl rfl ?_
  refine s_getr (n := 135) (k' := 136) dX6_spare_6 ly6 fl_X6_19 kd_0 rfl rfl rfl ?_
  refine s_getl dX6_spare_9 ly2 fl_X6_243 kd_136 rfl ?_
  refine s_ltl (fun x2 => ?_)
  refine s_lstore_n (lv' := [(3, jv x2), (1, jv x1), (0, rv B 0)]) dX6_spare_12 rfl (by decide) rfl ?_
  refine s_iconst dX6_spare_13 ?_
  refine s_istore (lv' := [(5, iv 0), (3, jv x2), (1, jv x1), (0, rv B 0)]) dX6_spare_14 (by decide) rfl ?_
  refine s_iconst dX6_spare_16 ?_
  refine s_istore (lv' := [(6, iv 0), (5, iv 0), (3, jv x2), (1, jv x1), (0, rv B 0)]) dX6_spare_17 (by decide) rfl ?_
  refine s_sub [4, 3, 2, 1, 0] (lv' := [(0, rv B 0), (1, jv x1), (3, jv x2), (5, iv 0), (6, iv 0)]) rfl ?_
  refine fX6_spare_L19_s hX x1 x2 _ ?_ fu 0 0 s1
  intro x8 s12
  refine s_aload_n 0 dX6_spare_112 rfl rfl ?_
  refine s_getr (n := 135) (k' := 136) dX6_spare_113 ly6 fl_X6_19 kd_0 rfl rfl rfl ?_
  refine s_iload 1 dX6_spare_116 rfl ?_
  refine s_Vv (rest := []) dX6_spare_118 lk_X6_302 meX2_bringBack (ctX2_bringBack B fu x8 s12) kd_136 ⟨rfl, by decide⟩ rfl rfl ⟨rfl, rfl, by decide, by decide⟩ (Nat.le_of_ble_eq_true rfl) (fun _ s13 => ?_)
  refine s_aload_n 0 dX6_spare_121 rfl rfl ?_
  refine s_getr (n := 322) (k' := 323) dX6_spare_122 ly6 fl_X6_26 kd_0 rfl rfl rfl ?_
  refine s_iload 1 dX6_spare_125 rfl ?_
  refine s_Si (rest := [rv B 323]) dX6_spare_127 lk_X6_104 meJ6_bitCount_0f7a4 (ctJ6_bitCount_0f7a4 B fu x8 s13) rfl rfl ⟨rfl, rfl, by decide, by decide⟩ (Nat.le_of_ble_eq_true rfl) (fun x9 s14 => ?_)
  refine s_i2l dX6_spare_130 ?_
  refine s_Vv (rest := []) dX6_spare_131 lk_X6_175 meX3_putOne (ctX3_putOne B fu (w32 x9) s14) kd_323 ⟨rfl, by decide⟩ rfl rfl ⟨rfl, rfl, by decide, by decide⟩ (Nat.le_of_ble_eq_true rfl) (fun _ s15 => ?_)
  refine s_iload 1 dX6_spare_134 rfl ?_
  exact s_iret hX dX6_spare_136
abbrev rmX6_offset : Room := { frames := 1, cells := 0, slots := 0, locals := 21 }
abbrev SX6_offset (B : Nat) (X : Ctx) := Sim cX6_offset RX6 4 rmX6_offset B X
set_option maxHeartbeats 4000000 in
set_option maxRecDepth 100000 in
theorem ctX6_offset (B fu : Nat) (a0 : Int) (a1 : Int) (σ : Mem) : CtI yX6_offset cX6_offset 4 (some .int) rmX6_offset B [rv B 0, iv a0, iv a1] σ (fX6_offset fu a0 a1 σ) := by
  refine ctI_intro (own := RX6) (lv := [(0, rv B 0), (1, iv a0), (2, iv a1)]) (by decide +kernel) rfl (Nat.le_of_ble_eq_true rfl) rfl (fun X hX => ?_)
  unfold fX6_offset
  refine s_aload_n 0 dX6_offset_0 rfl rfl ?_
  refine s_getr (n := 135) (k' := 136) dX6_offset_1 ly6 fl_X6_19 kd_0 rfl rfl rfl ?_
  refine s_iload_n 1 dX6_offset_4 rfl rfl ?_
  refine s_Vi (rest := []) dX6_offset_5 lk_X6_65 meX2_hasLine (ctX2_hasLine B fu a0 σ) kd_136 ⟨rfl, by decide⟩ rfl rfl ⟨rfl, rfl, by decide, by decide⟩ (Nat.le_of_ble_eq_true rfl) (fun x1 s1 => ?_)
  refine s_jn (fun (j1 : Mem → PR) => ∀ (s4 : Mem), SX6_offset B X (j1 s4) s4 21 [] []) ?_ (fun j1 hj1 => ?_)
  · intro s2
    refine s_iconst dX6_offset_21 ?_
    exact s_iret hX dX6_offset_22
  · refine s_if_eq (tgt := 21) dX6_offset_8 (by decide) ?_ ?_
    · exact s_sub [] rfl (hj1 s1)
    · refine s_iload_n 2 dX6_offset_11 rfl rfl ?_
      refine s_if_lt (tgt := 21) dX6_offset_12 (by decide) ?_ ?_
      · exact s_sub [] rfl (hj1 s1)
      · refine s_iload_n 2 dX6_offset_15 rfl rfl ?_
        refine s_bipush dX6_offset_16 (by decide) ?_
        refine s_icmp_le (tgt := 23) dX6_offset_18 (by decide) ?_ ?_
        · refine s_aload_n 0 dX6_offset_23 rfl rfl ?_
          refine s_getr (n := 135) (k' := 136) dX6_offset_24 ly6 fl_X6_19 kd_0 rfl rfl rfl ?_
          refine s_getd dX6_offset_27 ly2 fl_X6_90 kd_136 rfl rfl (fun p1 hp1 => ?_)
          refine s_iload_n 1 dX6_offset_30 rfl rfl ?_
          refine s_aald dX6_offset_31 hp1 (fun p2 hp2 => ?_)
          refine s_geti dX6_offset_32 ly1 fl_X6_125 hp2 rfl ?_
          refine s_lti (fun x2 => ?_)
          refine s_istore_n (lv' := [(3, iv x2), (0, rv B 0), (1, iv a0), (2, iv a1)]) dX6_offset_35 rfl (by decide) rfl ?_
          refine s_aload_n 1 dX6_offset_36 rfl rfl ?_
          refine s_getr (n := 135) (k' := 136) dX6_offset_37 ly6 fl_X6_19 kd_0 rfl rfl rfl ?_
          refine s_getd dX6_offset_40 ly2 fl_X6_90 kd_136 rfl rfl (fun p3 hp3 => ?_)
          refine s_iload_n 2 dX6_offset_43 rfl rfl ?_
          refine s_aald dX6_offset_44 hp3 (fun p4 hp4 => ?_)
          refine s_iload_n 3 dX6_offset_45 rfl rfl ?_
          refine s_puti dX6_offset_46 ly1 ty1 fl_X6_125 hp4 rfl po1_3 ⟨rfl, rfl, by decide⟩ (fun s3 => ?_)
          refine s_iload_n 0 dX6_offset_49 rfl rfl ?_
          exact s_iret hX dX6_offset_50
        · exact s_sub [] rfl (hj1 s1)
abbrev rmX6_isStart : Room := { frames := 0, cells := 0, slots := 0, locals := 0 }
abbrev SX6_isStart (B : Nat) (X : Ctx) := Sim cX6_isStart RX6 1 rmX6_isStart B X
set_option maxHeartbeats 4000000 in
set_option maxRecDepth 100000 in
theorem ctX6_isStart (B fu : Nat) (a0 : Int) (σ : Mem) : CtI yX6_isStart cX6_isStart 1 (some .boolean) rmX6_isStart B [iv a0] σ (fX6_isStart fu a0 σ) := by
  refine ctI_intro (own := RX6) (lv := [(0, iv a0)]) (by decide +kernel) rfl (Nat.le_of_ble_eq_true rfl) rfl (fun X hX => ?_)
  unfold fX6_isStart
  refine s_iload_n 0 dX6_isStart_0 rfl rfl ?_
  refine s_jn (fun (j1 : Int → Mem → PR) => ∀ (x1 : Int) (s4 : Mem), SX6_isStart B X (j1 x1 s4) s4 16 [] [iv x1]) ?_ (fun j1 hj1 => ?_)
  · intro x1 s1
    exact s_zret hX dX6_isStart_16
  · refine s_jn (fun (j2 : Mem → PR) => ∀ (s3 : Mem), SX6_isStart B X (j2 s3) s3 15 [] []) ?_ (fun j2 hj2 => ?_)
    · intro s2
      refine s_iconst dX6_isStart_15 ?_
      exact hj1 0 s2
    · refine s_if_lt (tgt := 15) dX6_isStart_1 (by decide) ?_ ?_
      · exact s_sub [] rfl (hj2 σ)
      · refine s_iload_n 0 dX6_isStart_4 rfl rfl ?_
        refine s_ldcw (x := 100000) dX6_isStart_5 ci_X6_352 (by decide) ?_
        refine s_icmp_gt (tgt := 15) dX6_isStart_8 (by decide) ?_ ?_
        · exact s_sub [] rfl (hj2 σ)
        · refine s_iconst dX6_isStart_11 ?_
          refine s_goto (tgt := 16) dX6_isStart_12 (by decide) ?_
          exact s_sub [] rfl (hj1 1 σ)
abbrev rmX6_comes : Room := { frames := 3, cells := 0, slots := 0, locals := 70 }
abbrev SX6_comes (B : Nat) (X : Ctx) := Sim cX6_comes RX6 4 rmX6_comes B X
set_option maxHeartbeats 4000000 in
set_option maxRecDepth 100000 in
theorem ctX6_comes (B fu : Nat) (a0 : Int) (a1 : Int) (a2 : Int) (σ : Mem) : CtI yX6_comes cX6_comes 4 (some .int) rmX6_comes B [rv B 0, iv a0, iv a1, iv a2] σ (fX6_comes fu a0 a1 a2 σ) := by
  refine ctI_intro (own := RX6) (lv := [(0, rv B 0), (1, iv a0), (2, iv a1), (3, iv a2)]) (by decide +kernel) rfl (Nat.le_of_ble_eq_true rfl) rfl (fun X hX => ?_)
  unfold fX6_comes
  refine s_aload_n 0 dX6_comes_0 rfl rfl ?_
  refine s_getr (n := 135) (k' := 136) dX6_comes_1 ly6 fl_X6_19 kd_0 rfl rfl rfl ?_
  refine s_iload_n 1 dX6_comes_4 rfl rfl ?_
  refine s_iload_n 2 dX6_comes_5 rfl rfl ?_
  refine s_Vi (rest := []) dX6_comes_6 lk_X6_132 meX2_hasHalt (ctX2_hasHalt B fu a0 a1 σ) kd_136 ⟨rfl, by decide⟩ rfl rfl ⟨rfl, rfl, by decide, by decide⟩ (Nat.le_of_ble_eq_true rfl) (fun x1 s1 => ?_)
  refine s_jn (fun (j1 : Mem → PR) => ∀ (s5 : Mem), SX6_comes B X (j1 s5) s5 19 [] []) ?_ (fun j1 hj1 => ?_)
  · intro s2
    refine s_iconst dX6_comes_19 ?_
    exact s_iret hX dX6_comes_20
  · refine s_if_eq (tgt := 19) dX6_comes_9 (by decide) ?_ ?_
    · exact s_sub [] rfl (hj1 s1)
    · refine s_iload_n 3 dX6_comes_12 rfl rfl ?_
      refine s_Si (rest := []) dX6_comes_13 lk_X6_305 meX6_isStart (ctX6_isStart B fu a2 s1) rfl rfl ⟨rfl, rfl, by decide, by decide⟩ (Nat.le_of_ble_eq_true rfl) (fun x2 s3 => ?_)
      refine s_if_ne (tgt := 21) dX6_comes_16 (by decide) ?_ ?_
      · refine s_aload_n 0 dX6_comes_21 rfl rfl ?_
        refine s_getr (n := 135) (k' := 136) dX6_comes_22 ly6 fl_X6_19 kd_0 rfl rfl rfl ?_
        refine s_getd dX6_comes_25 ly2 fl_X6_90 kd_136 rfl rfl (fun p1 hp1 => ?_)
        refine s_iload_n 1 dX6_comes_28 rfl rfl ?_
        refine s_aald dX6_comes_29 hp1 (fun p2 hp2 => ?_)
        refine s_iload_n 2 dX6_comes_30 rfl rfl ?_
        refine s_iload_n 3 dX6_comes_31 rfl rfl ?_
        refine s_Vi (rest := []) dX6_comes_32 lk_X6_308 meX1_firstAt (ctX1_firstAt B fu p2 hp2 a1 a2 s3) hp2 ⟨rfl, by decide⟩ rfl rfl ⟨rfl, rfl, by decide, by decide⟩ (Nat.le_of_ble_eq_true rfl) (fun x3 s4 => ?_)
        exact s_iret hX dX6_comes_35
      · exact s_sub [] rfl (hj1 s3)
abbrev rmX6_journey : Room := { frames := 5, cells := 0, slots := 0, locals := 128 }
abbrev SX6_journey (B : Nat) (X : Ctx) := Sim cX6_journey RX6 5 rmX6_journey B X
set_option maxHeartbeats 4000000 in
set_option maxRecDepth 100000 in
theorem fX6_journey_L66_s {B fu : Nat} {X : Ctx} (hX : CxI .int B X) (c1 : Int) (k120 : Mem → PR) (hk120 : ∀ (s11 : Mem), SX6_journey B X (k120 s11) s11 120 [(3, iv c1)] []) : ∀ (n : Nat) (x4 : Int) (s10 : Mem), SX6_journey B X (fX6_journey_L66 fu c1 k120 n x4 s10) s10 66 [(0, rv B 0), (3, iv c1), (4, iv x4)] [] := by
  intro n
  induction n with
  | zero => intro _ _; exact s_none
  | succ n ih =>
    intro x4 s7
    rw [fX6_journey_L66]
    refine s_iload 2 dX6_journey_66 rfl ?_
    refine s_aload_n 0 dX6_journey_68 rfl rfl ?_
    refine s_getr (n := 324) (k' := 325) dX6_journey_69 ly6 fl_X6_33 kd_0 rfl rfl rfl ?_
    refine s_geti dX6_journey_72 ly0 fl_X6_316 kd_325 rfl ?_
    refine s_icmp_ge (tgt := 120) dX6_journey_75 (by decide) ?_ ?_
    · exact s_sub [1] rfl (hk120 s7)
    · refine s_aload_n 0 dX6_journey_78 rfl rfl ?_
      refine s_getr (n := 322) (k' := 323) dX6_journey_79 ly6 fl_X6_26 kd_0 rfl rfl rfl ?_
      refine s_aload_n 0 dX6_journey_82 rfl rfl ?_
      refine s_getr (n := 324) (k' := 325) dX6_journey_83 ly6 fl_X6_33 kd_0 rfl rfl rfl ?_
      refine s_getr (n := 0) (k' := 326) dX6_journey_86 ly0 fl_X6_319 kd_325 rfl rfl rfl ?_
      refine s_iload 2 dX6_journey_89 rfl ?_
      refine s_iald 8 dX6_journey_91 kd_326 (by decide) (fun x5 => ?_)
      refine s_i2l dX6_journey_92 ?_
      refine s_Vv (rest := []) dX6_journey_93 lk_X6_146 meX3_put (ctX3_put B fu (w32 x5) s7) kd_323 ⟨rfl, by decide⟩ rfl rfl ⟨rfl, rfl, by decide, by decide⟩ (Nat.le_of_ble_eq_true rfl) (fun _ s8 => ?_)
      refine s_aload_n 0 dX6_journey_96 rfl rfl ?_
      refine s_getr (n := 322) (k' := 323) dX6_journey_97 ly6 fl_X6_26 kd_0 rfl rfl rfl ?_
      refine s_aload_n 0 dX6_journey_100 rfl rfl ?_
      refine s_getr (n := 324) (k' := 325) dX6_journey_101 ly6 fl_X6_33 kd_0 rfl rfl rfl ?_
      refine s_getr (n := 1) (k' := 327) dX6_journey_104 ly0 fl_X6_320 kd_325 rfl rfl rfl ?_
      refine s_iload 2 dX6_journey_107 rfl ?_
      refine s_iald 8 dX6_journey_109 kd_327 (by decide) (fun x6 => ?_)
      refine s_i2l dX6_journey_110 ?_
      refine s_Vv (rest := []) dX6_journey_111 lk_X6_146 meX3_put (ctX3_put B fu (w32 x6) s8) kd_323 ⟨rfl, by decide⟩ rfl rfl ⟨rfl, rfl, by decide, by decide⟩ (Nat.le_of_ble_eq_true rfl) (fun _ s9 => ?_)
      refine s_iinc (lv' := [(4, iv (x4 + 1)), (0, rv B 0), (3, iv c1)]) 2 dX6_journey_114 rfl (by decide) rfl ?_
      refine s_goto (tgt := 66) dX6_journey_117 (by decide) ?_
      exact s_sub [1, 2, 0] rfl (ih (x4 + 1) s9)
set_option maxHeartbeats 4000000 in
set_option maxRecDepth 100000 in
theorem ctX6_journey (B fu : Nat) (a0 : Int) (a1 : Int) (σ : Mem) : CtI yX6_journey cX6_journey 5 (some .int) rmX6_journey B [rv B 0, iv a0, iv a1] σ (fX6_journey fu a0 a1 σ) := by
  refine ctI_intro (own := RX6) (lv := [(0, rv B 0), (1, iv a0), (2, iv a1)]) (by decide +kernel) rfl (Nat.le_of_ble_eq_true rfl) rfl (fun X hX => ?_)
  unfold fX6_journey
  refine s_iload_n 1 dX6_journey_0 rfl rfl ?_
  refine s_Si (rest := []) dX6_journey_1 lk_X6_75 meX6_isStop (ctX6_isStop B fu a0 σ) rfl rfl ⟨rfl, rfl, by decide, by decide⟩ (Nat.le_of_ble_eq_true rfl) (fun x1 s1 => ?_)
  refine s_jn (fun (j1 : Mem → PR) => ∀ (s13 : Mem), SX6_journey B X (j1 s13) s13 14 [] []) ?_ (fun j1 hj1 => ?_)
  · intro s2
    refine s_iconst dX6_journey_14 ?_
    exact s_iret hX dX6_journey_15
  · refine s_if_eq (tgt := 14) dX6_journey_4 (by decide) ?_ ?_
    · exact s_sub [] rfl (hj1 s1)
    · refine s_iload_n 2 dX6_journey_7 rfl rfl ?_
      refine s_Si (rest := []) dX6_journey_8 lk_X6_305 meX6_isStart (ctX6_isStart B fu a1 s1) rfl rfl ⟨rfl, rfl, by decide, by decide⟩ (Nat.le_of_ble_eq_true rfl) (fun x2 s3 => ?_)
      refine s_if_ne (tgt := 16) dX6_journey_11 (by decide) ?_ ?_
      · refine s_aload_n 0 dX6_journey_16 rfl rfl ?_
        refine s_getr (n := 135) (k' := 136) dX6_journey_17 ly6 fl_X6_19 kd_0 rfl rfl rfl ?_
        refine s_Vv (rest := []) dX6_journey_20 lk_X6_155 meX2_findCosts (ctX2_findCosts B fu s3) kd_136 ⟨rfl, by decide⟩ rfl rfl ⟨rfl, rfl, by decide, by decide⟩ (Nat.le_of_ble_eq_true rfl) (fun _ s4 => ?_)
        refine s_aload_n 0 dX6_journey_23 rfl rfl ?_
        refine s_getr (n := 135) (k' := 136) dX6_journey_24 ly6 fl_X6_19 kd_0 rfl rfl rfl ?_
        refine s_getr (n := 133) (k' := 270) dX6_journey_27 ly2 fl_X6_81 kd_136 rfl rfl rfl ?_
        refine s_iload_n 1 dX6_journey_30 rfl rfl ?_
        refine s_aals dX6_journey_31 (fun p1 hp1 => ?_)
        refine s_geti dX6_journey_32 ly4 fl_X6_158 hp1 rfl ?_
        refine s_iconst dX6_journey_35 ?_
        refine s_icmp_ne (tgt := 42) dX6_journey_36 (by decide) ?_ ?_
        · refine s_aload_n 0 dX6_journey_42 rfl rfl ?_
          refine s_getr (n := 324) (k' := 325) dX6_journey_43 ly6 fl_X6_33 kd_0 rfl rfl rfl ?_
          refine s_aload_n 0 dX6_journey_46 rfl rfl ?_
          refine s_getr (n := 135) (k' := 136) dX6_journey_47 ly6 fl_X6_19 kd_0 rfl rfl rfl ?_
          refine s_iload_n 1 dX6_journey_50 rfl rfl ?_
          refine s_iload_n 2 dX6_journey_51 rfl rfl ?_
          refine s_Vi (rest := []) dX6_journey_52 lk_X6_312 meX0_takes (ctX0_takes B fu a0 a1 s4) kd_325 ⟨rfl, by decide⟩ rfl rfl ⟨rfl, rfl, by decide, by decide⟩ (Nat.le_of_ble_eq_true rfl) (fun x3 s5 => ?_)
          refine s_istore_n (lv' := [(3, iv x3), (0, rv B 0), (1, iv a0), (2, iv a1)]) dX6_journey_55 rfl (by decide) rfl ?_
          refine s_aload_n 1 dX6_journey_56 rfl rfl ?_
          refine s_getr (n := 322) (k' := 323) dX6_journey_57 ly6 fl_X6_26 kd_0 rfl rfl rfl ?_
          refine s_Vv (rest := []) dX6_journey_60 lk_X6_136 meX3_empty (ctX3_empty B fu s5) kd_323 ⟨rfl, by decide⟩ rfl rfl ⟨rfl, rfl, by decide, by decide⟩ (Nat.le_of_ble_eq_true rfl) (fun _ s6 => ?_)
          refine s_iconst dX6_journey_63 ?_
          refine s_istore (lv' := [(4, iv 0), (3, iv x3), (0, rv B 0), (1, iv a0), (2, iv a1)]) dX6_journey_64 (by decide) rfl ?_
          refine s_sub [2, 1, 0] (lv' := [(0, rv B 0), (3, iv x3), (4, iv 0)]) rfl ?_
          refine fX6_journey_L66_s hX x3 _ ?_ fu 0 s6
          intro s12
          refine s_iload_n 0 dX6_journey_120 rfl rfl ?_
          exact s_iret hX dX6_journey_121
        · refine s_bipush dX6_journey_39 (by decide) ?_
          exact s_iret hX dX6_journey_41
      · exact s_sub [] rfl (hj1 s3)
abbrev rmX6_usual : Room := { frames := 5, cells := 0, slots := 0, locals := 128 }
abbrev SX6_usual (B : Nat) (X : Ctx) := Sim cX6_usual RX6 9 rmX6_usual B X
set_option maxHeartbeats 4000000 in
set_option maxRecDepth 100000 in
theorem fX6_usual_L58_s {B fu : Nat} {X : Ctx} (hX : CxI .int B X) (c1 : Int) (c2 : Int) (k113 : Int → Int → Int → Mem → PR) (hk113 : ∀ (x6 : Int) (x7 : Int) (x8 : Int) (s7 : Mem), SX6_usual B X (k113 x6 x7 x8 s7) s7 113 [(0, rv B 0), (2, iv c2), (3, jv x6), (5, iv x7), (6, iv x8)] []) : ∀ (n : Nat) (x2 : Int) (x3 : Int) (x4 : Int) (x5 : Int) (s6 : Mem), SX6_usual B X (fX6_usual_L58 fu c1 c2 k113 n x2 x3 x4 x5 s6) s6 58 [(0, rv B 0), (1, iv c1), (2, iv c2), (3, jv x2), (5, iv x3), (6, iv x4), (7, iv x5)] [] := by
  intro n
  induction n with
  | zero => intro _ _ _ _ _; exact s_none
  | succ n ih =>
    intro x2 x3 x4 x5 s4
    rw [fX6_usual_L58]
    refine s_iload 6 dX6_usual_58 rfl ?_
    refine s_iload_n 2 dX6_usual_60 rfl rfl ?_
    refine s_icmp_ge (tgt := 113) dX6_usual_61 (by decide) ?_ ?_
    · exact s_sub [0, 2, 3, 4, 5] rfl (hk113 x2 x3 x4 s4)
    · refine s_aload_n 0 dX6_usual_64 rfl rfl ?_
      refine s_getr (n := 324) (k' := 325) dX6_usual_65 ly6 fl_X6_33 kd_0 rfl rfl rfl ?_
      refine s_aload_n 0 dX6_usual_68 rfl rfl ?_
      refine s_getr (n := 135) (k' := 136) dX6_usual_69 ly6 fl_X6_19 kd_0 rfl rfl rfl ?_
      refine s_iload_n 1 dX6_usual_72 rfl rfl ?_
      refine s_bipush dX6_usual_73 (by decide) ?_
      refine s_iload 6 dX6_usual_75 rfl ?_
      refine s_imul dX6_usual_77 ?_
      refine s_Vi (rest := []) dX6_usual_78 lk_X6_312 meX0_takes (ctX0_takes B fu c1 (100 * x5) s4) kd_325 ⟨rfl, by decide⟩ rfl rfl ⟨rfl, rfl, by decide, by decide⟩ (Nat.le_of_ble_eq_true rfl) (fun x9 s5 => ?_)
      refine s_istore (lv' := [(8, iv x9), (0, rv B 0), (1, iv c1), (2, iv c2), (3, jv x2), (5, iv x3), (6, iv x4), (7, iv x5)]) dX6_usual_81 (by decide) rfl ?_
      refine s_lload_n 4 dX6_usual_83 rfl rfl ?_
      refine s_iload 0 dX6_usual_84 rfl ?_
      refine s_i2l dX6_usual_86 ?_
      refine s_ladd dX6_usual_87 ?_
      refine s_ltl (fun x10 => ?_)
      refine s_lstore_n (lv' := [(3, jv x10), (8, iv x9), (0, rv B 0), (1, iv c1), (2, iv c2), (5, iv x3), (6, iv x4), (7, iv x5)]) dX6_usual_88 rfl (by decide) rfl ?_
      refine s_iload 5 dX6_usual_89 rfl ?_
      refine s_iload 1 dX6_usual_91 rfl ?_
      refine s_min32 dX6_usual_93 lk_X6_321 meJ9_min_7cf53 ⟨by decide, by decide⟩ (Nat.le_of_ble_eq_true rfl) ?_
      refine s_lti (fun x11 => ?_)
      refine s_istore (lv' := [(5, iv x11), (3, jv x10), (8, iv x9), (0, rv B 0), (1, iv c1), (2, iv c2), (6, iv x4), (7, iv x5)]) dX6_usual_96 (by decide) rfl ?_
      refine s_iload 6 dX6_usual_98 rfl ?_
      refine s_iload 2 dX6_usual_100 rfl ?_
      refine s_max32 dX6_usual_102 lk_X6_326 meJ9_max_7cf53 ⟨by decide, by decide⟩ (Nat.le_of_ble_eq_true rfl) ?_
      refine s_lti (fun x12 => ?_)
      refine s_istore (lv' := [(6, iv x12), (5, iv x11), (3, jv x10), (8, iv x9), (0, rv B 0), (1, iv c1), (2, iv c2), (7, iv x5)]) dX6_usual_105 (by decide) rfl ?_
      refine s_iinc (lv' := [(7, iv (x5 + 1)), (6, iv x12), (5, iv x11), (3, jv x10), (8, iv x9), (0, rv B 0), (1, iv c1), (2, iv c2)]) 7 dX6_usual_107 rfl (by decide) rfl ?_
      refine s_goto (tgt := 58) dX6_usual_110 (by decide) ?_
      exact s_sub [5, 6, 7, 3, 2, 1, 0] rfl (ih x10 x11 x12 (x5 + 1) s5)
set_option maxHeartbeats 4000000 in
set_option maxRecDepth 100000 in
theorem ctX6_usual (B fu : Nat) (a0 : Int) (a1 : Int) (σ : Mem) : CtI yX6_usual cX6_usual 9 (some .int) rmX6_usual B [rv B 0, iv a0, iv a1] σ (fX6_usual fu a0 a1 σ) := by
  refine ctI_intro (own := RX6) (lv := [(0, rv B 0), (1, iv a0), (2, iv a1)]) (by decide +kernel) rfl (Nat.le_of_ble_eq_true rfl) rfl (fun X hX => ?_)
  unfold fX6_usual
  refine s_iload_n 1 dX6_usual_0 rfl rfl ?_
  refine s_Si (rest := []) dX6_usual_1 lk_X6_75 meX6_isStop (ctX6_isStop B fu a0 σ) rfl rfl ⟨rfl, rfl, by decide, by decide⟩ (Nat.le_of_ble_eq_true rfl) (fun x1 s1 => ?_)
  refine s_jn (fun (j1 : Mem → PR) => ∀ (s11 : Mem), SX6_usual B X (j1 s11) s11 18 [] []) ?_ (fun j1 hj1 => ?_)
  · intro s2
    refine s_iconst dX6_usual_18 ?_
    exact s_iret hX dX6_usual_19
  · refine s_if_eq (tgt := 18) dX6_usual_4 (by decide) ?_ ?_
    · exact s_sub [] rfl (hj1 s1)
    · refine s_iload_n 2 dX6_usual_7 rfl rfl ?_
      refine s_iconst dX6_usual_8 ?_
      refine s_icmp_lt (tgt := 18) dX6_usual_9 (by decide) ?_ ?_
      · exact s_sub [] rfl (hj1 s1)
      · refine s_iload_n 2 dX6_usual_12 rfl rfl ?_
        refine s_bipush dX6_usual_13 (by decide) ?_
        refine s_icmp_le (tgt := 20) dX6_usual_15 (by decide) ?_ ?_
        · refine s_aload_n 0 dX6_usual_20 rfl rfl ?_
          refine s_getr (n := 135) (k' := 136) dX6_usual_21 ly6 fl_X6_19 kd_0 rfl rfl rfl ?_
          refine s_Vv (rest := []) dX6_usual_24 lk_X6_155 meX2_findCosts (ctX2_findCosts B fu s1) kd_136 ⟨rfl, by decide⟩ rfl rfl ⟨rfl, rfl, by decide, by decide⟩ (Nat.le_of_ble_eq_true rfl) (fun _ s3 => ?_)
          refine s_aload_n 0 dX6_usual_27 rfl rfl ?_
          refine s_getr (n := 135) (k' := 136) dX6_usual_28 ly6 fl_X6_19 kd_0 rfl rfl rfl ?_
          refine s_getr (n := 133) (k' := 270) dX6_usual_31 ly2 fl_X6_81 kd_136 rfl rfl rfl ?_
          refine s_iload_n 1 dX6_usual_34 rfl rfl ?_
          refine s_aals dX6_usual_35 (fun p1 hp1 => ?_)
          refine s_geti dX6_usual_36 ly4 fl_X6_158 hp1 rfl ?_
          refine s_iconst dX6_usual_39 ?_
          refine s_icmp_ne (tgt := 46) dX6_usual_40 (by decide) ?_ ?_
          · refine s_lconst (x := 0) dX6_usual_46 (by decide) ?_
            refine s_lstore_n (lv' := [(3, jv 0), (0, rv B 0), (1, iv a0), (2, iv a1)]) dX6_usual_47 rfl (by decide) rfl ?_
            refine s_ldc (x := 2147483647) dX6_usual_48 ci_X6_171 (by decide) ?_
            refine s_istore (lv' := [(5, iv 2147483647), (3, jv 0), (0, rv B 0), (1, iv a0), (2, iv a1)]) dX6_usual_50 (by decide) rfl ?_
            refine s_iconst dX6_usual_52 ?_
            refine s_istore (lv' := [(6, iv 0), (5, iv 2147483647), (3, jv 0), (0, rv B 0), (1, iv a0), (2, iv a1)]) dX6_usual_53 (by decide) rfl ?_
            refine s_iconst dX6_usual_55 ?_
            refine s_istore (lv' := [(7, iv 0), (6, iv 0), (5, iv 2147483647), (3, jv 0), (0, rv B 0), (1, iv a0), (2, iv a1)]) dX6_usual_56 (by decide) rfl ?_
            refine s_sub [4, 5, 6, 3, 2, 1, 0] (lv' := [(0, rv B 0), (1, iv a0), (2, iv a1), (3, jv 0), (5, iv 2147483647), (6, iv 0), (7, iv 0)]) rfl ?_
            refine fX6_usual_L58_s hX a0 a1 _ ?_ fu 0 2147483647 0 0 s3
            intro x13 x14 x15 s8
            refine s_aload_n 0 dX6_usual_113 rfl rfl ?_
            refine s_getr (n := 322) (k' := 323) dX6_usual_114 ly6 fl_X6_26 kd_0 rfl rfl rfl ?_
            refine s_iload 3 dX6_usual_117 rfl ?_
            refine s_i2l dX6_usual_119 ?_
            refine s_iload 4 dX6_usual_120 rfl ?_
            refine s_i2l dX6_usual_122 ?_
            refine s_Vv (rest := []) dX6_usual_123 lk_X6_167 meX3_putTwo (ctX3_putTwo B fu (w32 x14) (w32 x15) s8) kd_323 ⟨rfl, by decide⟩ rfl rfl ⟨rfl, rfl, by decide, by decide⟩ (Nat.le_of_ble_eq_true rfl) (fun _ s9 => ?_)
            refine s_lload_n 2 dX6_usual_126 rfl rfl ?_
            refine s_iload_n 1 dX6_usual_127 rfl rfl ?_
            refine s_i2l dX6_usual_128 ?_
            refine s_Sl (rest := []) dX6_usual_129 lk_X6_206 meX6_parts (ctX6_parts B fu x13 (w32 a1) s9) rfl rfl ⟨rfl, rfl, by decide, by decide⟩ (Nat.le_of_ble_eq_true rfl) (fun x16 s10 => ?_)
            refine s_l2i dX6_usual_132 ?_
            exact s_iret hX dX6_usual_133
          · refine s_bipush dX6_usual_43 (by decide) ?_
            exact s_iret hX dX6_usual_45
        · exact s_sub [] rfl (hj1 s1)
abbrev rmX6_count : Room := { frames := 4, cells := 0, slots := 0, locals := 94 }
abbrev SX6_count (B : Nat) (X : Ctx) := Sim cX6_count RX6 2 rmX6_count B X
set_option maxHeartbeats 4000000 in
set_option maxRecDepth 100000 in
theorem ctX6_count (B fu : Nat) (a0 : Int) (σ : Mem) : CtI yX6_count cX6_count 2 (some .int) rmX6_count B [rv B 0, iv a0] σ (fX6_count fu a0 σ) := by
  refine ctI_intro (own := RX6) (lv := [(0, rv B 0), (1, iv a0)]) (by decide +kernel) rfl (Nat.le_of_ble_eq_true rfl) rfl (fun X hX => ?_)
  unfold fX6_count
  refine s_iload_n 1 dX6_count_0 rfl rfl ?_
  refine s_ite1 (fun hd0 => ?_) ?_
  · refine s_tabO (tgt := 188) dX6_count_1 hd0 (by decide) ?_
    refine s_iconst dX6_count_188 ?_
    exact s_iret hX dX6_count_189
  · refine s_ite1 (fun h0 => ?_) ?_
    · refine s_tabI (tgt := 68) dX6_count_1 0 h0 (by decide) (by decide) rfl (by decide) ?_
      refine s_aload_n 0 dX6_count_68 rfl rfl ?_
      refine s_getr (n := 135) (k' := 136) dX6_count_69 ly6 fl_X6_19 kd_0 rfl rfl rfl ?_
      refine s_geti dX6_count_72 ly2 fl_X6_56 kd_136 rfl ?_
      exact s_iret hX dX6_count_75
    · refine s_ite1 (fun h1 => ?_) ?_
      · refine s_tabI (tgt := 76) dX6_count_1 1 h1 (by decide) (by decide) rfl (by decide) ?_
        refine s_aload_n 0 dX6_count_76 rfl rfl ?_
        refine s_getr (n := 135) (k' := 136) dX6_count_77 ly6 fl_X6_19 kd_0 rfl rfl rfl ?_
        refine s_geti dX6_count_80 ly2 fl_X6_72 kd_136 rfl ?_
        exact s_iret hX dX6_count_83
      · refine s_ite1 (fun h2 => ?_) ?_
        · refine s_tabI (tgt := 84) dX6_count_1 2 h2 (by decide) (by decide) rfl (by decide) ?_
          refine s_aload_n 0 dX6_count_84 rfl rfl ?_
          refine s_getr (n := 135) (k' := 136) dX6_count_85 ly6 fl_X6_19 kd_0 rfl rfl rfl ?_
          refine s_geti dX6_count_88 ly2 fl_X6_78 kd_136 rfl ?_
          exact s_iret hX dX6_count_91
        · refine s_ite1 (fun h3 => ?_) ?_
          · refine s_tabI (tgt := 92) dX6_count_1 3 h3 (by decide) (by decide) rfl (by decide) ?_
            refine s_aload_n 0 dX6_count_92 rfl rfl ?_
            refine s_getr (n := 135) (k' := 136) dX6_count_93 ly6 fl_X6_19 kd_0 rfl rfl rfl ?_
            refine s_Vi (rest := []) dX6_count_96 lk_X6_329 meX2_allRiders (ctX2_allRiders B fu σ) kd_136 ⟨rfl, by decide⟩ rfl rfl ⟨rfl, rfl, by decide, by decide⟩ (Nat.le_of_ble_eq_true rfl) (fun x1 s1 => ?_)
            exact s_iret hX dX6_count_99
          · refine s_ite1 (fun h4 => ?_) ?_
            · refine s_tabI (tgt := 100) dX6_count_1 4 h4 (by decide) (by decide) rfl (by decide) ?_
              refine s_aload_n 0 dX6_count_100 rfl rfl ?_
              refine s_getr (n := 135) (k' := 136) dX6_count_101 ly6 fl_X6_19 kd_0 rfl rfl rfl ?_
              refine s_geti dX6_count_104 ly2 fl_X6_256 kd_136 rfl ?_
              exact s_iret hX dX6_count_107
            · refine s_ite1 (fun h5 => ?_) ?_
              · refine s_tabI (tgt := 108) dX6_count_1 5 h5 (by decide) (by decide) rfl (by decide) ?_
                refine s_aload_n 0 dX6_count_108 rfl rfl ?_
                refine s_getr (n := 135) (k' := 136) dX6_count_109 ly6 fl_X6_19 kd_0 rfl rfl rfl ?_
                refine s_geti dX6_count_112 ly2 fl_X6_262 kd_136 rfl ?_
                exact s_iret hX dX6_count_115
              · refine s_ite1 (fun h6 => ?_) ?_
                · refine s_tabI (tgt := 116) dX6_count_1 6 h6 (by decide) (by decide) rfl (by decide) ?_
                  refine s_aload_n 0 dX6_count_116 rfl rfl ?_
                  refine s_getr (n := 135) (k' := 136) dX6_count_117 ly6 fl_X6_19 kd_0 rfl rfl rfl ?_
                  refine s_Vi (rest := []) dX6_count_120 lk_X6_332 meX2_allSteps (ctX2_allSteps B fu σ) kd_136 ⟨rfl, by decide⟩ rfl rfl ⟨rfl, rfl, by decide, by decide⟩ (Nat.le_of_ble_eq_true rfl) (fun x2 s2 => ?_)
                  exact s_iret hX dX6_count_123
                · refine s_ite1 (fun h7 => ?_) ?_
                  · refine s_tabI (tgt := 124) dX6_count_1 7 h7 (by decide) (by decide) rfl (by decide) ?_
                    refine s_aload_n 0 dX6_count_124 rfl rfl ?_
                    refine s_getr (n := 135) (k' := 136) dX6_count_125 ly6 fl_X6_19 kd_0 rfl rfl rfl ?_
                    refine s_Vi (rest := []) dX6_count_128 lk_X6_113 meX2_closedStops (ctX2_closedStops B fu σ) kd_136 ⟨rfl, by decide⟩ rfl rfl ⟨rfl, rfl, by decide, by decide⟩ (Nat.le_of_ble_eq_true rfl) (fun x3 s3 => ?_)
                    exact s_iret hX dX6_count_131
                  · refine s_ite1 (fun h8 => ?_) ?_
                    · refine s_tabI (tgt := 132) dX6_count_1 8 h8 (by decide) (by decide) rfl (by decide) ?_
                      refine s_aload_n 0 dX6_count_132 rfl rfl ?_
                      refine s_getr (n := 135) (k' := 136) dX6_count_133 ly6 fl_X6_19 kd_0 rfl rfl rfl ?_
                      refine s_Vi (rest := []) dX6_count_136 lk_X6_100 meX2_outLines (ctX2_outLines B fu σ) kd_136 ⟨rfl, by decide⟩ rfl rfl ⟨rfl, rfl, by decide, by decide⟩ (Nat.le_of_ble_eq_true rfl) (fun x4 s4 => ?_)
                      exact s_iret hX dX6_count_139
                    · refine s_ite1 (fun h9 => ?_) ?_
                      · refine s_tabI (tgt := 140) dX6_count_1 9 h9 (by decide) (by decide) rfl (by decide) ?_
                        refine s_aload_n 0 dX6_count_140 rfl rfl ?_
                        refine s_getr (n := 322) (k' := 323) dX6_count_141 ly6 fl_X6_26 kd_0 rfl rfl rfl ?_
                        refine s_geti dX6_count_144 ly3 fl_X6_335 kd_323 rfl ?_
                        exact s_iret hX dX6_count_147
                      · refine s_ite1 (fun h10 => ?_) ?_
                        · refine s_tabI (tgt := 148) dX6_count_1 10 h10 (by decide) (by decide) rfl (by decide) ?_
                          refine s_aload_n 0 dX6_count_148 rfl rfl ?_
                          refine s_getr (n := 0) (k' := 1) dX6_count_149 ly6 fl_X6_10 kd_0 rfl rfl rfl ?_
                          refine s_geti dX6_count_152 ly5 fl_X6_41 kd_1 rfl ?_
                          exact s_iret hX dX6_count_155
                        · refine s_ite1 (fun h11 => ?_) ?_
                          · refine s_tabI (tgt := 156) dX6_count_1 11 h11 (by decide) (by decide) rfl (by decide) ?_
                            refine s_aload_n 0 dX6_count_156 rfl rfl ?_
                            refine s_getr (n := 135) (k' := 136) dX6_count_157 ly6 fl_X6_19 kd_0 rfl rfl rfl ?_
                            refine s_Vv (rest := []) dX6_count_160 lk_X6_155 meX2_findCosts (ctX2_findCosts B fu σ) kd_136 ⟨rfl, by decide⟩ rfl rfl ⟨rfl, rfl, by decide, by decide⟩ (Nat.le_of_ble_eq_true rfl) (fun _ s5 => ?_)
                            refine s_aload_n 0 dX6_count_163 rfl rfl ?_
                            refine s_getr (n := 135) (k' := 136) dX6_count_164 ly6 fl_X6_19 kd_0 rfl rfl rfl ?_
                            refine s_Vi (rest := []) dX6_count_167 lk_X6_338 meX2_linesInNoSet (ctX2_linesInNoSet B fu s5) kd_136 ⟨rfl, by decide⟩ rfl rfl ⟨rfl, rfl, by decide, by decide⟩ (Nat.le_of_ble_eq_true rfl) (fun x5 s6 => ?_)
                            exact s_iret hX dX6_count_170
                          · refine s_ite1 (fun h12 => ?_) ?_
                            · refine s_tabI (tgt := 171) dX6_count_1 12 h12 (by decide) (by decide) rfl (by decide) ?_
                              refine s_aload_n 0 dX6_count_171 rfl rfl ?_
                              refine s_getr (n := 135) (k' := 136) dX6_count_172 ly6 fl_X6_19 kd_0 rfl rfl rfl ?_
                              refine s_Vv (rest := []) dX6_count_175 lk_X6_155 meX2_findCosts (ctX2_findCosts B fu σ) kd_136 ⟨rfl, by decide⟩ rfl rfl ⟨rfl, rfl, by decide, by decide⟩ (Nat.le_of_ble_eq_true rfl) (fun _ s7 => ?_)
                              refine s_aload_n 0 dX6_count_178 rfl rfl ?_
                              refine s_getr (n := 135) (k' := 136) dX6_count_179 ly6 fl_X6_19 kd_0 rfl rfl rfl ?_
                              refine s_ldc (x := 2147483647) dX6_count_182 ci_X6_171 (by decide) ?_
                              refine s_Vi (rest := []) dX6_count_184 lk_X6_172 meX2_stopsWithin (ctX2_stopsWithin B fu 2147483647 s7) kd_136 ⟨rfl, by decide⟩ rfl rfl ⟨rfl, rfl, by decide, by decide⟩ (Nat.le_of_ble_eq_true rfl) (fun x6 s8 => ?_)
                              exact s_iret hX dX6_count_187
                            · exact s_none
abbrev rmX6_row : Room := { frames := 0, cells := 0, slots := 0, locals := 0 }
abbrev SX6_row (B : Nat) (X : Ctx) := Sim cX6_row RX6 2 rmX6_row B X
set_option maxHeartbeats 4000000 in
set_option maxRecDepth 100000 in
theorem ctX6_row (B fu : Nat) (a0 : Int) (σ : Mem) : CtL yX6_row cX6_row 2 (some .long) rmX6_row B [rv B 0, iv a0] σ (fX6_row fu a0 σ) := by
  refine ctL_intro (own := RX6) (lv := [(0, rv B 0), (1, iv a0)]) (by decide +kernel) rfl (Nat.le_of_ble_eq_true rfl) rfl (fun X hX => ?_)
  unfold fX6_row
  refine s_iload_n 1 dX6_row_0 rfl rfl ?_
  refine s_jn (fun (j1 : Mem → PR) => ∀ (s2 : Mem), SX6_row B X (j1 s2) s2 15 [] []) ?_ (fun j1 hj1 => ?_)
  · intro s1
    exact s_none
  · refine s_if_lt (tgt := 15) dX6_row_1 (by decide) ?_ ?_
    · exact s_sub [] rfl (hj1 σ)
    · refine s_iload_n 1 dX6_row_4 rfl rfl ?_
      refine s_aload_n 0 dX6_row_5 rfl rfl ?_
      refine s_getr (n := 322) (k' := 323) dX6_row_6 ly6 fl_X6_26 kd_0 rfl rfl rfl ?_
      refine s_geti dX6_row_9 ly3 fl_X6_335 kd_323 rfl ?_
      refine s_icmp_lt (tgt := 26) dX6_row_12 (by decide) ?_ ?_
      · refine s_aload_n 0 dX6_row_26 rfl rfl ?_
        refine s_getr (n := 322) (k' := 323) dX6_row_27 ly6 fl_X6_26 kd_0 rfl rfl rfl ?_
        refine s_getr (n := 0) (k' := 324) dX6_row_30 ly3 fl_X6_348 kd_323 rfl rfl rfl ?_
        refine s_iload_n 1 dX6_row_33 rfl rfl ?_
        refine s_lald 16 dX6_row_34 kd_324 (by decide) (fun x1 => ?_)
        exact s_lret hX dX6_row_35
      · exact s_sub [] rfl (hj1 σ)
abbrev rmX7_thrown : Room := { frames := 0, cells := 0, slots := 0, locals := 0 }
abbrev SX7_thrown (B : Nat) (X : Ctx) := Sim cX7_thrown RX7 1 rmX7_thrown B X
set_option maxHeartbeats 4000000 in
set_option maxRecDepth 100000 in
theorem ctX7_thrown (B fu : Nat) (σ : Mem) : CtI yX7_thrown cX7_thrown 1 (some .int) rmX7_thrown B [rv B 328] σ (fX7_thrown fu σ) := by
  refine ctI_intro (own := RX7) (lv := [(0, rv B 328)]) (by decide +kernel) rfl (Nat.le_of_ble_eq_true rfl) rfl (fun X hX => ?_)
  unfold fX7_thrown
  refine s_aload_n 0 dX7_thrown_0 rfl rfl ?_
  refine s_geti dX7_thrown_1 ly7 fl_X7_116 kd_328 rfl ?_
  exact s_iret hX dX7_thrown_4
abbrev rmX7_in : Room := { frames := 0, cells := 0, slots := 0, locals := 0 }
abbrev SX7_in (B : Nat) (X : Ctx) := Sim cX7_in RX7 6 rmX7_in B X
set_option maxHeartbeats 4000000 in
set_option maxRecDepth 100000 in
theorem ctX7_in (B fu : Nat) (a0 : Int) (a1 : Int) (a2 : Int) (σ : Mem) : CtI yX7_in cX7_in 6 (some .boolean) rmX7_in B [jv a0, jv a1, jv a2] σ (fX7_in fu a0 a1 a2 σ) := by
  refine ctI_intro (own := RX7) (lv := [(0, jv a0), (2, jv a1), (4, jv a2)]) (by decide +kernel) rfl (Nat.le_of_ble_eq_true rfl) rfl (fun X hX => ?_)
  unfold fX7_in
  refine s_lload_n 0 dX7_in_0 rfl rfl ?_
  refine s_lload_n 1 dX7_in_1 rfl rfl ?_
  refine s_jn (fun (j1 : Int → Mem → PR) => ∀ (x1 : Int) (s4 : Mem), SX7_in B X (j1 x1 s4) s4 18 [] [iv x1]) ?_ (fun j1 hj1 => ?_)
  · intro x1 s1
    exact s_zret hX dX7_in_18
  · refine s_jn (fun (j2 : Mem → PR) => ∀ (s3 : Mem), SX7_in B X (j2 s3) s3 17 [] []) ?_ (fun j2 hj2 => ?_)
    · intro s2
      refine s_iconst dX7_in_17 ?_
      exact hj1 0 s2
    · refine s_lif_lt (tgt := 17) dX7_in_2 dX7_in_3 (by decide) ?_ ?_
      · exact s_sub [] rfl (hj2 σ)
      · refine s_lload_n 0 dX7_in_6 rfl rfl ?_
        refine s_lload 2 dX7_in_7 rfl ?_
        refine s_lif_gt (tgt := 17) dX7_in_9 dX7_in_10 (by decide) ?_ ?_
        · exact s_sub [] rfl (hj2 σ)
        · refine s_iconst dX7_in_13 ?_
          refine s_goto (tgt := 18) dX7_in_14 (by decide) ?_
          exact s_sub [] rfl (hj1 1 σ)
abbrev rmX7_lost : Room := { frames := 0, cells := 0, slots := 0, locals := 0 }
abbrev SX7_lost (B : Nat) (X : Ctx) := Sim cX7_lost RX7 1 rmX7_lost B X
set_option maxHeartbeats 4000000 in
set_option maxRecDepth 100000 in
theorem ctX7_lost (B fu : Nat) (σ : Mem) : CtI yX7_lost cX7_lost 1 (some .int) rmX7_lost B [rv B 328] σ (fX7_lost fu σ) := by
  refine ctI_intro (own := RX7) (lv := [(0, rv B 328)]) (by decide +kernel) rfl (Nat.le_of_ble_eq_true rfl) rfl (fun X hX => ?_)
  unfold fX7_lost
  refine s_aload_n 0 dX7_lost_0 rfl rfl ?_
  refine s_iconst dX7_lost_1 ?_
  refine s_puti dX7_lost_2 ly7 ty7 fl_X7_116 kd_328 rfl po7_20 ⟨rfl, rfl, by decide⟩ (fun s1 => ?_)
  refine s_iconst dX7_lost_5 ?_
  exact s_iret hX dX7_lost_6
abbrev rmX7_tell : Room := { frames := 0, cells := 0, slots := 0, locals := 0 }
abbrev SX7_tell (B : Nat) (X : Ctx) := Sim cX7_tell RX7 3 rmX7_tell B X
set_option maxHeartbeats 4000000 in
set_option maxRecDepth 100000 in
theorem ctX7_tell (B fu : Nat) (a0 : Int) (σ : Mem) : CtV yX7_tell cX7_tell 3 none rmX7_tell B [rv B 328, jv a0] σ (fX7_tell fu a0 σ) := by
  refine ctV_intro (own := RX7) (lv := [(0, rv B 328), (1, jv a0)]) (by decide +kernel) rfl (Nat.le_of_ble_eq_true rfl) rfl (fun X hX => ?_)
  unfold fX7_tell
  refine s_aload_n 0 dX7_tell_0 rfl rfl ?_
  refine s_getr (n := 12) (k' := 341) dX7_tell_1 ly7 fl_X7_53 kd_328 rfl rfl rfl ?_
  refine s_aload_n 0 dX7_tell_4 rfl rfl ?_
  refine s_geti dX7_tell_5 ly7 fl_X7_119 kd_328 rfl ?_
  refine s_lload_n 1 dX7_tell_8 rfl rfl ?_
  refine s_last 32 dX7_tell_9 kd_341 (by decide) (fun s1 => ?_)
  refine s_aload_n 0 dX7_tell_10 rfl rfl ?_
  refine s_dup dX7_tell_11 rfl ?_
  refine s_geti dX7_tell_12 ly7 fl_X7_119 kd_328 rfl ?_
  refine s_iconst dX7_tell_15 ?_
  refine s_iadd dX7_tell_16 ?_
  refine s_puti dX7_tell_17 ly7 ty7 fl_X7_119 kd_328 rfl po7_19 ⟨rfl, rfl, by decide⟩ (fun s2 => ?_)
  exact s_vret hX dX7_tell_20
abbrev rmX7_sign : Room := { frames := 0, cells := 0, slots := 0, locals := 0 }
abbrev SX7_sign (B : Nat) (X : Ctx) := Sim cX7_sign RX7 3 rmX7_sign B X
set_option maxHeartbeats 4000000 in
set_option maxRecDepth 100000 in
theorem fX7_sign_L21_s {B fu : Nat} {X : Ctx} (hX : CxI .int B X) (c1 : Int) (k54 : Mem → PR) (hk54 : ∀ (s6 : Mem), SX7_sign B X (k54 s6) s6 54 [(0, rv B 328)] []) : ∀ (n : Nat) (x1 : Int) (s5 : Mem), SX7_sign B X (fX7_sign_L21 fu c1 k54 n x1 s5) s5 21 [(0, rv B 328), (1, iv c1), (2, iv x1)] [] := by
  intro n
  induction n with
  | zero => intro _ _; exact s_none
  | succ n ih =>
    intro x1 s2
    rw [fX7_sign_L21]
    refine s_iload_n 2 dX7_sign_21 rfl rfl ?_
    refine s_if_lt (tgt := 54) dX7_sign_22 (by decide) ?_ ?_
    · exact s_sub [0] rfl (hk54 s2)
    · refine s_aload_n 0 dX7_sign_25 rfl rfl ?_
      refine s_getr (n := 11) (k' := 340) dX7_sign_26 ly7 fl_X7_49 kd_328 rfl rfl rfl ?_
      refine s_aload_n 0 dX7_sign_29 rfl rfl ?_
      refine s_dup dX7_sign_30 rfl ?_
      refine s_geti dX7_sign_31 ly7 fl_X7_122 kd_328 rfl ?_
      refine s_dup_x1 dX7_sign_34 rfl rfl ?_
      refine s_iconst dX7_sign_35 ?_
      refine s_iadd dX7_sign_36 ?_
      refine s_puti dX7_sign_37 ly7 ty7 fl_X7_122 kd_328 rfl po7_17 ⟨rfl, rfl, by decide⟩ (fun s3 => ?_)
      refine s_iload_n 1 dX7_sign_40 rfl rfl ?_
      refine s_bipush dX7_sign_41 (by decide) ?_
      refine s_iload_n 2 dX7_sign_43 rfl rfl ?_
      refine s_imul dX7_sign_44 ?_
      refine s_ishr dX7_sign_45 ?_
      refine s_i2b dX7_sign_46 ?_
      refine s_bast 400 dX7_sign_47 kd_340 (by decide) (fun s4 => ?_)
      refine s_iinc (lv' := [(2, iv (x1 + (-1))), (0, rv B 328), (1, iv c1)]) 2 dX7_sign_48 rfl (by decide) rfl ?_
      refine s_goto (tgt := 21) dX7_sign_51 (by decide) ?_
      exact s_sub [1, 2, 0] rfl (ih (x1 + (-1)) s4)
set_option maxHeartbeats 4000000 in
set_option maxRecDepth 100000 in
theorem ctX7_sign (B fu : Nat) (a0 : Int) (σ : Mem) : CtI yX7_sign cX7_sign 3 (some .int) rmX7_sign B [rv B 328, iv a0] σ (fX7_sign fu a0 σ) := by
  refine ctI_intro (own := RX7) (lv := [(0, rv B 328), (1, iv a0)]) (by decide +kernel) rfl (Nat.le_of_ble_eq_true rfl) rfl (fun X hX => ?_)
  unfold fX7_sign
  refine s_aload_n 0 dX7_sign_0 rfl rfl ?_
  refine s_iconst dX7_sign_1 ?_
  refine s_puti dX7_sign_2 ly7 ty7 fl_X7_116 kd_328 rfl po7_20 ⟨rfl, rfl, by decide⟩ (fun s1 => ?_)
  refine s_aload_n 0 dX7_sign_5 rfl rfl ?_
  refine s_geti dX7_sign_6 ly7 fl_X7_122 kd_328 rfl ?_
  refine s_iconst dX7_sign_9 ?_
  refine s_iadd dX7_sign_10 ?_
  refine s_sipush dX7_sign_11 (by decide) ?_
  refine s_icmp_le (tgt := 19) dX7_sign_14 (by decide) ?_ ?_
  · refine s_iconst dX7_sign_19 ?_
    refine s_istore_n (lv' := [(2, iv 3), (0, rv B 328), (1, iv a0)]) dX7_sign_20 rfl (by decide) rfl ?_
    refine s_sub [1, 2, 0] (lv' := [(0, rv B 328), (1, iv a0), (2, iv 3)]) rfl ?_
    refine fX7_sign_L21_s hX a0 _ ?_ fu 3 s1
    intro s7
    refine s_aload_n 0 dX7_sign_54 rfl rfl ?_
    refine s_geti dX7_sign_55 ly7 fl_X7_122 kd_328 rfl ?_
    exact s_iret hX dX7_sign_58
  · refine s_iconst dX7_sign_17 ?_
    exact s_iret hX dX7_sign_18
abbrev rmX7_end : Room := { frames := 1, cells := 0, slots := 0, locals := 25 }
abbrev SX7_end (B : Nat) (X : Ctx) := Sim cX7_end RX7 2 rmX7_end B X
set_option maxHeartbeats 4000000 in
set_option maxRecDepth 100000 in
theorem ctX7_end (B fu : Nat) (a0 : Int) (σ : Mem) : CtI yX7_end cX7_end 2 (some .boolean) rmX7_end B [rv B 328, iv a0] σ (fX7_end fu a0 σ) := by
  refine ctI_intro (own := RX7) (lv := [(0, rv B 328), (1, iv a0)]) (by decide +kernel) rfl (Nat.le_of_ble_eq_true rfl) rfl (fun X hX => ?_)
  unfold fX7_end
  refine s_aload_n 0 dX7_end_0 rfl rfl ?_
  refine s_iconst dX7_end_1 ?_
  refine s_puti dX7_end_2 ly7 ty7 fl_X7_116 kd_328 rfl po7_20 ⟨rfl, rfl, by decide⟩ (fun s1 => ?_)
  refine s_iload_n 1 dX7_end_5 rfl rfl ?_
  refine s_i2l dX7_end_6 ?_
  refine s_lconst (x := 0) dX7_end_7 (by decide) ?_
  refine s_aload_n 0 dX7_end_8 rfl rfl ?_
  refine s_geti dX7_end_9 ly7 fl_X7_122 kd_328 rfl ?_
  refine s_i2l dX7_end_12 ?_
  refine s_Si (rest := []) dX7_end_13 lk_X7_125 meX7_in (ctX7_in B fu (w32 a0) 0 (w32 (s1 328 17)) s1) rfl rfl ⟨rfl, rfl, by decide, by decide⟩ (Nat.le_of_ble_eq_true rfl) (fun x1 s2 => ?_)
  refine s_if_ne (tgt := 21) dX7_end_16 (by decide) ?_ ?_
  · refine s_aload_n 0 dX7_end_21 rfl rfl ?_
    refine s_iload_n 1 dX7_end_22 rfl rfl ?_
    refine s_puti dX7_end_23 ly7 ty7 fl_X7_122 kd_328 rfl po7_17 ⟨rfl, rfl, by decide⟩ (fun s3 => ?_)
    refine s_iconst dX7_end_26 ?_
    exact s_zret hX dX7_end_27
  · refine s_iconst dX7_end_19 ?_
    exact s_zret hX dX7_end_20
abbrev rmX7_isLine : Room := { frames := 1, cells := 0, slots := 0, locals := 25 }
abbrev SX7_isLine (B : Nat) (X : Ctx) := Sim cX7_isLine RX7 2 rmX7_isLine B X
set_option maxHeartbeats 4000000 in
set_option maxRecDepth 100000 in
theorem ctX7_isLine (B fu : Nat) (a0 : Int) (σ : Mem) : CtI yX7_isLine cX7_isLine 2 (some .boolean) rmX7_isLine B [rv B 328, iv a0] σ (fX7_isLine fu a0 σ) := by
  refine ctI_intro (own := RX7) (lv := [(0, rv B 328), (1, iv a0)]) (by decide +kernel) rfl (Nat.le_of_ble_eq_true rfl) rfl (fun X hX => ?_)
  unfold fX7_isLine
  refine s_iload_n 1 dX7_isLine_0 rfl rfl ?_
  refine s_i2l dX7_isLine_1 ?_
  refine s_lconst (x := 0) dX7_isLine_2 (by decide) ?_
  refine s_aload_n 0 dX7_isLine_3 rfl rfl ?_
  refine s_geti dX7_isLine_4 ly7 fl_X7_129 kd_328 rfl ?_
  refine s_iconst dX7_isLine_7 ?_
  refine s_isub dX7_isLine_8 ?_
  refine s_i2l dX7_isLine_9 ?_
  refine s_Si (rest := []) dX7_isLine_10 lk_X7_125 meX7_in (ctX7_in B fu (w32 a0) 0 (w32 ((σ 328 9) - 1)) σ) rfl rfl ⟨rfl, rfl, by decide, by decide⟩ (Nat.le_of_ble_eq_true rfl) (fun x1 s1 => ?_)
  exact s_zret hX dX7_isLine_13
abbrev rmX7_isStop : Room := { frames := 1, cells := 0, slots := 0, locals := 25 }
abbrev SX7_isStop (B : Nat) (X : Ctx) := Sim cX7_isStop RX7 1 rmX7_isStop B X
set_option maxHeartbeats 4000000 in
set_option maxRecDepth 100000 in
theorem ctX7_isStop (B fu : Nat) (a0 : Int) (σ : Mem) : CtI yX7_isStop cX7_isStop 1 (some .boolean) rmX7_isStop B [iv a0] σ (fX7_isStop fu a0 σ) := by
  refine ctI_intro (own := RX7) (lv := [(0, iv a0)]) (by decide +kernel) rfl (Nat.le_of_ble_eq_true rfl) rfl (fun X hX => ?_)
  unfold fX7_isStop
  refine s_iload_n 0 dX7_isStop_0 rfl rfl ?_
  refine s_i2l dX7_isStop_1 ?_
  refine s_lconst (x := 0) dX7_isStop_2 (by decide) ?_
  refine s_ldc2 (x := 9) dX7_isStop_3 cl_X7_132 (by decide) ?_
  refine s_Si (rest := []) dX7_isStop_6 lk_X7_125 meX7_in (ctX7_in B fu (w32 a0) 0 9 σ) rfl rfl ⟨rfl, rfl, by decide, by decide⟩ (Nat.le_of_ble_eq_true rfl) (fun x1 s1 => ?_)
  exact s_zret hX dX7_isStop_9
abbrev rmX7_at : Room := { frames := 0, cells := 0, slots := 0, locals := 0 }
abbrev SX7_at (B : Nat) (X : Ctx) := Sim cX7_at RX7 2 rmX7_at B X
set_option maxHeartbeats 4000000 in
set_option maxRecDepth 100000 in
theorem ctX7_at (B fu : Nat) (a0 : Int) (a1 : Int) (σ : Mem) : CtI yX7_at cX7_at 2 (some .int) rmX7_at B [iv a0, iv a1] σ (fX7_at fu a0 a1 σ) := by
  refine ctI_intro (own := RX7) (lv := [(0, iv a0), (1, iv a1)]) (by decide +kernel) rfl (Nat.le_of_ble_eq_true rfl) rfl (fun X hX => ?_)
  unfold fX7_at
  refine s_bipush dX7_at_0 (by decide) ?_
  refine s_iload_n 0 dX7_at_2 rfl rfl ?_
  refine s_imul dX7_at_3 ?_
  refine s_iload_n 1 dX7_at_4 rfl rfl ?_
  refine s_iadd dX7_at_5 ?_
  exact s_iret hX dX7_at_6
abbrev rmX7_isHalt : Room := { frames := 2, cells := 0, slots := 0, locals := 46 }
abbrev SX7_isHalt (B : Nat) (X : Ctx) := Sim cX7_isHalt RX7 3 rmX7_isHalt B X
set_option maxHeartbeats 4000000 in
set_option maxRecDepth 100000 in
theorem ctX7_isHalt (B fu : Nat) (a0 : Int) (a1 : Int) (σ : Mem) : CtI yX7_isHalt cX7_isHalt 3 (some .boolean) rmX7_isHalt B [rv B 328, iv a0, iv a1] σ (fX7_isHalt fu a0 a1 σ) := by
  refine ctI_intro (own := RX7) (lv := [(0, rv B 328), (1, iv a0), (2, iv a1)]) (by decide +kernel) rfl (Nat.le_of_ble_eq_true rfl) rfl (fun X hX => ?_)
  unfold fX7_isHalt
  refine s_aload_n 0 dX7_isHalt_0 rfl rfl ?_
  refine s_iload_n 1 dX7_isHalt_1 rfl rfl ?_
  refine s_Vi (rest := []) dX7_isHalt_2 lk_X7_134 meX7_isLine (ctX7_isLine B fu a0 σ) kd_328 ⟨rfl, by decide⟩ rfl rfl ⟨rfl, rfl, by decide, by decide⟩ (Nat.le_of_ble_eq_true rfl) (fun x1 s1 => ?_)
  refine s_jn (fun (j1 : Int → Mem → PR) => ∀ (x2 : Int) (s6 : Mem), SX7_isHalt B X (j1 x2 s6) s6 31 [] [iv x2]) ?_ (fun j1 hj1 => ?_)
  · intro x2 s2
    exact s_zret hX dX7_isHalt_31
  · refine s_jn (fun (j2 : Mem → PR) => ∀ (s5 : Mem), SX7_isHalt B X (j2 s5) s5 30 [] []) ?_ (fun j2 hj2 => ?_)
    · intro s3
      refine s_iconst dX7_isHalt_30 ?_
      exact hj1 0 s3
    · refine s_if_eq (tgt := 30) dX7_isHalt_5 (by decide) ?_ ?_
      · exact s_sub [] rfl (hj2 s1)
      · refine s_iload_n 2 dX7_isHalt_8 rfl rfl ?_
        refine s_i2l dX7_isHalt_9 ?_
        refine s_lconst (x := 0) dX7_isHalt_10 (by decide) ?_
        refine s_aload_n 0 dX7_isHalt_11 rfl rfl ?_
        refine s_getr (n := 1) (k' := 330) dX7_isHalt_12 ly7 fl_X7_13 kd_328 rfl rfl rfl ?_
        refine s_iload_n 1 dX7_isHalt_15 rfl rfl ?_
        refine s_iald 12 dX7_isHalt_16 kd_330 (by decide) (fun x3 => ?_)
        refine s_iconst dX7_isHalt_17 ?_
        refine s_isub dX7_isHalt_18 ?_
        refine s_i2l dX7_isHalt_19 ?_
        refine s_Si (rest := []) dX7_isHalt_20 lk_X7_125 meX7_in (ctX7_in B fu (w32 a1) 0 (w32 (x3 - 1)) s1) rfl rfl ⟨rfl, rfl, by decide, by decide⟩ (Nat.le_of_ble_eq_true rfl) (fun x4 s4 => ?_)
        refine s_if_eq (tgt := 30) dX7_isHalt_23 (by decide) ?_ ?_
        · exact s_sub [] rfl (hj2 s4)
        · refine s_iconst dX7_isHalt_26 ?_
          refine s_goto (tgt := 31) dX7_isHalt_27 (by decide) ?_
          exact s_sub [] rfl (hj1 1 s4)
abbrev rmX7_isStep : Room := { frames := 2, cells := 0, slots := 0, locals := 46 }
abbrev SX7_isStep (B : Nat) (X : Ctx) := Sim cX7_isStep RX7 3 rmX7_isStep B X
set_option maxHeartbeats 4000000 in
set_option maxRecDepth 100000 in
theorem ctX7_isStep (B fu : Nat) (a0 : Int) (a1 : Int) (σ : Mem) : CtI yX7_isStep cX7_isStep 3 (some .boolean) rmX7_isStep B [rv B 328, iv a0, iv a1] σ (fX7_isStep fu a0 a1 σ) := by
  refine ctI_intro (own := RX7) (lv := [(0, rv B 328), (1, iv a0), (2, iv a1)]) (by decide +kernel) rfl (Nat.le_of_ble_eq_true rfl) rfl (fun X hX => ?_)
  unfold fX7_isStep
  refine s_aload_n 0 dX7_isStep_0 rfl rfl ?_
  refine s_iload_n 1 dX7_isStep_1 rfl rfl ?_
  refine s_Vi (rest := []) dX7_isStep_2 lk_X7_134 meX7_isLine (ctX7_isLine B fu a0 σ) kd_328 ⟨rfl, by decide⟩ rfl rfl ⟨rfl, rfl, by decide, by decide⟩ (Nat.le_of_ble_eq_true rfl) (fun x1 s1 => ?_)
  refine s_jn (fun (j1 : Int → Mem → PR) => ∀ (x2 : Int) (s6 : Mem), SX7_isStep B X (j1 x2 s6) s6 31 [] [iv x2]) ?_ (fun j1 hj1 => ?_)
  · intro x2 s2
    exact s_zret hX dX7_isStep_31
  · refine s_jn (fun (j2 : Mem → PR) => ∀ (s5 : Mem), SX7_isStep B X (j2 s5) s5 30 [] []) ?_ (fun j2 hj2 => ?_)
    · intro s3
      refine s_iconst dX7_isStep_30 ?_
      exact hj1 0 s3
    · refine s_if_eq (tgt := 30) dX7_isStep_5 (by decide) ?_ ?_
      · exact s_sub [] rfl (hj2 s1)
      · refine s_iload_n 2 dX7_isStep_8 rfl rfl ?_
        refine s_i2l dX7_isStep_9 ?_
        refine s_lconst (x := 0) dX7_isStep_10 (by decide) ?_
        refine s_aload_n 0 dX7_isStep_11 rfl rfl ?_
        refine s_getr (n := 1) (k' := 330) dX7_isStep_12 ly7 fl_X7_13 kd_328 rfl rfl rfl ?_
        refine s_iload_n 1 dX7_isStep_15 rfl rfl ?_
        refine s_iald 12 dX7_isStep_16 kd_330 (by decide) (fun x3 => ?_)
        refine s_iconst dX7_isStep_17 ?_
        refine s_isub dX7_isStep_18 ?_
        refine s_i2l dX7_isStep_19 ?_
        refine s_Si (rest := []) dX7_isStep_20 lk_X7_125 meX7_in (ctX7_in B fu (w32 a1) 0 (w32 (x3 - 2)) s1) rfl rfl ⟨rfl, rfl, by decide, by decide⟩ (Nat.le_of_ble_eq_true rfl) (fun x4 s4 => ?_)
        refine s_if_eq (tgt := 30) dX7_isStep_23 (by decide) ?_ ?_
        · exact s_sub [] rfl (hj2 s4)
        · refine s_iconst dX7_isStep_26 ?_
          refine s_goto (tgt := 31) dX7_isStep_27 (by decide) ?_
          exact s_sub [] rfl (hj1 1 s4)
abbrev rmX7_begin : Room := { frames := 0, cells := 0, slots := 0, locals := 0 }
abbrev SX7_begin (B : Nat) (X : Ctx) := Sim cX7_begin RX7 1 rmX7_begin B X
set_option maxHeartbeats 4000000 in
set_option maxRecDepth 100000 in
theorem ctX7_begin (B fu : Nat) (σ : Mem) : CtV yX7_begin cX7_begin 1 none rmX7_begin B [rv B 328] σ (fX7_begin fu σ) := by
  refine ctV_intro (own := RX7) (lv := [(0, rv B 328)]) (by decide +kernel) rfl (Nat.le_of_ble_eq_true rfl) rfl (fun X hX => ?_)
  unfold fX7_begin
  refine s_aload_n 0 dX7_begin_0 rfl rfl ?_
  refine s_aload_n 0 dX7_begin_1 rfl rfl ?_
  refine s_geti dX7_begin_2 ly7 fl_X7_122 kd_328 rfl ?_
  refine s_puti dX7_begin_5 ly7 ty7 fl_X7_138 kd_328 rfl po7_26 ⟨rfl, rfl, by decide⟩ (fun s1 => ?_)
  refine s_aload_n 0 dX7_begin_8 rfl rfl ?_
  refine s_iconst dX7_begin_9 ?_
  refine s_puti dX7_begin_10 ly7 ty7 fl_X7_122 kd_328 rfl po7_17 ⟨rfl, rfl, by decide⟩ (fun s2 => ?_)
  refine s_aload_n 0 dX7_begin_13 rfl rfl ?_
  refine s_iconst dX7_begin_14 ?_
  refine s_puti dX7_begin_15 ly7 ty7 fl_X7_141 kd_328 rfl po7_27 ⟨rfl, rfl, by decide⟩ (fun s3 => ?_)
  refine s_aload_n 0 dX7_begin_18 rfl rfl ?_
  refine s_iconst dX7_begin_19 ?_
  refine s_puti dX7_begin_20 ly7 ty7 fl_X7_144 kd_328 rfl po7_28 ⟨rfl, rfl, by decide⟩ (fun s4 => ?_)
  refine s_aload_n 0 dX7_begin_23 rfl rfl ?_
  refine s_iconst dX7_begin_24 ?_
  refine s_puti dX7_begin_25 ly7 ty7 fl_X7_147 kd_328 rfl po7_25 ⟨rfl, rfl, by decide⟩ (fun s5 => ?_)
  exact s_vret hX dX7_begin_28
abbrev rmX7_sees : Room := { frames := 0, cells := 0, slots := 0, locals := 0 }
abbrev SX7_sees (B : Nat) (X : Ctx) := Sim cX7_sees RX7 1 rmX7_sees B X
set_option maxHeartbeats 4000000 in
set_option maxRecDepth 100000 in
theorem ctX7_sees (B fu : Nat) (σ : Mem) : CtI yX7_sees cX7_sees 1 (some .int) rmX7_sees B [rv B 328] σ (fX7_sees fu σ) := by
  refine ctI_intro (own := RX7) (lv := [(0, rv B 328)]) (by decide +kernel) rfl (Nat.le_of_ble_eq_true rfl) rfl (fun X hX => ?_)
  unfold fX7_sees
  refine s_aload_n 0 dX7_sees_0 rfl rfl ?_
  refine s_geti dX7_sees_1 ly7 fl_X7_141 kd_328 rfl ?_
  refine s_aload_n 0 dX7_sees_4 rfl rfl ?_
  refine s_geti dX7_sees_5 ly7 fl_X7_138 kd_328 rfl ?_
  refine s_jn (fun (j1 : Int → Mem → PR) => ∀ (x1 : Int) (s2 : Mem), SX7_sees B X (j1 x1 s2) s2 28 [] [iv x1]) ?_ (fun j1 hj1 => ?_)
  · intro x1 s1
    exact s_iret hX dX7_sees_28
  · refine s_icmp_ge (tgt := 27) dX7_sees_8 (by decide) ?_ ?_
    · refine s_iconst dX7_sees_27 ?_
      exact s_sub [] rfl (hj1 (-1) σ)
    · refine s_aload_n 0 dX7_sees_11 rfl rfl ?_
      refine s_getr (n := 11) (k' := 340) dX7_sees_12 ly7 fl_X7_49 kd_328 rfl rfl rfl ?_
      refine s_aload_n 0 dX7_sees_15 rfl rfl ?_
      refine s_geti dX7_sees_16 ly7 fl_X7_141 kd_328 rfl ?_
      refine s_bald 400 dX7_sees_19 kd_340 (by decide) (fun x2 => ?_)
      refine s_sipush dX7_sees_20 (by decide) ?_
      refine s_iand dX7_sees_23 ?_
      refine s_goto (tgt := 28) dX7_sees_24 (by decide) ?_
      exact s_sub [] rfl (hj1 (and32 x2 255) σ)
abbrev rmX7_fault : Room := { frames := 0, cells := 0, slots := 0, locals := 0 }
abbrev SX7_fault (B : Nat) (X : Ctx) := Sim cX7_fault RX7 2 rmX7_fault B X
set_option maxHeartbeats 4000000 in
set_option maxRecDepth 100000 in
theorem ctX7_fault (B fu : Nat) (a0 : Int) (σ : Mem) : CtV yX7_fault cX7_fault 2 none rmX7_fault B [rv B 328, iv a0] σ (fX7_fault fu a0 σ) := by
  refine ctV_intro (own := RX7) (lv := [(0, rv B 328), (1, iv a0)]) (by decide +kernel) rfl (Nat.le_of_ble_eq_true rfl) rfl (fun X hX => ?_)
  unfold fX7_fault
  refine s_aload_n 0 dX7_fault_0 rfl rfl ?_
  refine s_geti dX7_fault_1 ly7 fl_X7_144 kd_328 rfl ?_
  refine s_iconst dX7_fault_4 ?_
  refine s_jn (fun (j1 : Mem → PR) => ∀ (s3 : Mem), SX7_fault B X (j1 s3) s3 13 [] []) ?_ (fun j1 hj1 => ?_)
  · intro s1
    exact s_vret hX dX7_fault_13
  · refine s_icmp_ne (tgt := 13) dX7_fault_5 (by decide) ?_ ?_
    · exact s_sub [] rfl (hj1 σ)
    · refine s_aload_n 0 dX7_fault_8 rfl rfl ?_
      refine s_iload_n 1 dX7_fault_9 rfl rfl ?_
      refine s_puti dX7_fault_10 ly7 ty7 fl_X7_144 kd_328 rfl po7_28 ⟨rfl, rfl, by decide⟩ (fun s2 => ?_)
      exact s_sub [] rfl (hj1 s2)
abbrev rmX7_readNumber : Room := { frames := 1, cells := 0, slots := 0, locals := 25 }
abbrev SX7_readNumber (B : Nat) (X : Ctx) := Sim cX7_readNumber RX7 4 rmX7_readNumber B X
set_option maxHeartbeats 4000000 in
set_option maxRecDepth 100000 in
theorem fX7_readNumber_L4_s {B fu : Nat} {X : Ctx} (hX : CxI .int B X) (c1 : Int) (k55 : Int → Int → Mem → PR) (hk55 : ∀ (x3 : Int) (x4 : Int) (s7 : Mem), SX7_readNumber B X (k55 x3 x4 s7) s7 55 [(0, rv B 328), (1, iv c1), (2, iv x3), (3, iv x4)] []) : ∀ (n : Nat) (x1 : Int) (x2 : Int) (s6 : Mem), SX7_readNumber B X (fX7_readNumber_L4 fu c1 k55 n x1 x2 s6) s6 4 [(0, rv B 328), (1, iv c1), (2, iv x1), (3, iv x2)] [] := by
  intro n
  induction n with
  | zero => intro _ _ _; exact s_none
  | succ n ih =>
    intro x1 x2 s1
    rw [fX7_readNumber_L4]
    refine s_iload_n 3 dX7_readNumber_4 rfl rfl ?_
    refine s_iconst dX7_readNumber_5 ?_
    refine s_icmp_ge (tgt := 55) dX7_readNumber_6 (by decide) ?_ ?_
    · exact hk55 x1 x2 s1
    · refine s_aload_n 0 dX7_readNumber_9 rfl rfl ?_
      refine s_Vi (rest := []) dX7_readNumber_10 lk_X7_150 meX7_sees (ctX7_sees B fu s1) kd_328 ⟨rfl, by decide⟩ rfl rfl ⟨rfl, rfl, by decide, by decide⟩ (Nat.le_of_ble_eq_true rfl) (fun x5 s2 => ?_)
      refine s_i2l dX7_readNumber_13 ?_
      refine s_ldc2 (x := 48) dX7_readNumber_14 cl_X7_154 (by decide) ?_
      refine s_ldc2 (x := 57) dX7_readNumber_17 cl_X7_156 (by decide) ?_
      refine s_Si (rest := []) dX7_readNumber_20 lk_X7_125 meX7_in (ctX7_in B fu (w32 x5) 48 57 s2) rfl rfl ⟨rfl, rfl, by decide, by decide⟩ (Nat.le_of_ble_eq_true rfl) (fun x6 s3 => ?_)
      refine s_if_eq (tgt := 55) dX7_readNumber_23 (by decide) ?_ ?_
      · exact hk55 x1 x2 s3
      · refine s_bipush dX7_readNumber_26 (by decide) ?_
        refine s_iload_n 2 dX7_readNumber_28 rfl rfl ?_
        refine s_imul dX7_readNumber_29 ?_
        refine s_aload_n 0 dX7_readNumber_30 rfl rfl ?_
        refine s_Vi (rest := [iv (10 * x1)]) dX7_readNumber_31 lk_X7_150 meX7_sees (ctX7_sees B fu s3) kd_328 ⟨rfl, by decide⟩ rfl rfl ⟨rfl, rfl, by decide, by decide⟩ (Nat.le_of_ble_eq_true rfl) (fun x7 s4 => ?_)
        refine s_iadd dX7_readNumber_34 ?_
        refine s_bipush dX7_readNumber_35 (by decide) ?_
        refine s_isub dX7_readNumber_37 ?_
        refine s_lti (fun x8 => ?_)
        refine s_istore_n (lv' := [(2, iv x8), (0, rv B 328), (1, iv c1), (3, iv x2)]) dX7_readNumber_38 rfl (by decide) rfl ?_
        refine s_iinc (lv' := [(3, iv (x2 + 1)), (2, iv x8), (0, rv B 328), (1, iv c1)]) 3 dX7_readNumber_39 rfl (by decide) rfl ?_
        refine s_aload_n 2 dX7_readNumber_42 rfl rfl ?_
        refine s_dup dX7_readNumber_43 rfl ?_
        refine s_geti dX7_readNumber_44 ly7 fl_X7_141 kd_328 rfl ?_
        refine s_iconst dX7_readNumber_47 ?_
        refine s_iadd dX7_readNumber_48 ?_
        refine s_puti dX7_readNumber_49 ly7 ty7 fl_X7_141 kd_328 rfl po7_27 ⟨rfl, rfl, by decide⟩ (fun s5 => ?_)
        refine s_goto (tgt := 4) dX7_readNumber_52 (by decide) ?_
        exact s_sub [2, 3, 1, 0] rfl (ih x8 (x2 + 1) s5)
set_option maxHeartbeats 4000000 in
set_option maxRecDepth 100000 in
theorem ctX7_readNumber (B fu : Nat) (a0 : Int) (σ : Mem) : CtI yX7_readNumber cX7_readNumber 4 (some .int) rmX7_readNumber B [rv B 328, iv a0] σ (fX7_readNumber fu a0 σ) := by
  refine ctI_intro (own := RX7) (lv := [(0, rv B 328), (1, iv a0)]) (by decide +kernel) rfl (Nat.le_of_ble_eq_true rfl) rfl (fun X hX => ?_)
  unfold fX7_readNumber
  refine s_iconst dX7_readNumber_0 ?_
  refine s_istore_n (lv' := [(2, iv 0), (0, rv B 328), (1, iv a0)]) dX7_readNumber_1 rfl (by decide) rfl ?_
  refine s_iconst dX7_readNumber_2 ?_
  refine s_istore_n (lv' := [(3, iv 0), (2, iv 0), (0, rv B 328), (1, iv a0)]) dX7_readNumber_3 rfl (by decide) rfl ?_
  refine s_sub [2, 3, 1, 0] (lv' := [(0, rv B 328), (1, iv a0), (2, iv 0), (3, iv 0)]) rfl ?_
  refine fX7_readNumber_L4_s hX a0 _ ?_ fu 0 0 σ
  intro x9 x10 s8
  refine s_iload_n 3 dX7_readNumber_55 rfl rfl ?_
  refine s_jn (fun (j1 : Mem → PR) => ∀ (s13 : Mem), SX7_readNumber B X (j1 s13) s13 91 [(2, iv x9)] []) ?_ (fun j1 hj1 => ?_)
  · intro s9
    refine s_iload_n 0 dX7_readNumber_91 rfl rfl ?_
    exact s_iret hX dX7_readNumber_92
  · refine s_if_ne (tgt := 70) dX7_readNumber_56 (by decide) ?_ ?_
    · refine s_iload_n 2 dX7_readNumber_70 rfl rfl ?_
      refine s_i2l dX7_readNumber_71 ?_
      refine s_lconst (x := 1) dX7_readNumber_72 (by decide) ?_
      refine s_iload_n 1 dX7_readNumber_73 rfl rfl ?_
      refine s_i2l dX7_readNumber_74 ?_
      refine s_Si (rest := []) dX7_readNumber_75 lk_X7_125 meX7_in (ctX7_in B fu (w32 x9) 1 (w32 a0) s8) rfl rfl ⟨rfl, rfl, by decide, by decide⟩ (Nat.le_of_ble_eq_true rfl) (fun x11 s10 => ?_)
      refine s_if_ne (tgt := 91) dX7_readNumber_78 (by decide) ?_ ?_
      · exact s_sub [2] rfl (hj1 s10)
      · refine s_aload_n 0 dX7_readNumber_81 rfl rfl ?_
        refine s_aload_n 0 dX7_readNumber_82 rfl rfl ?_
        refine s_geti dX7_readNumber_83 ly7 fl_X7_141 kd_328 rfl ?_
        refine s_iconst dX7_readNumber_86 ?_
        refine s_isub dX7_readNumber_87 ?_
        refine s_Vv (rest := []) dX7_readNumber_88 lk_X7_158 meX7_fault (ctX7_fault B fu ((s10 328 27) - 1) s10) kd_328 ⟨rfl, by decide⟩ rfl rfl ⟨rfl, rfl, by decide, by decide⟩ (Nat.le_of_ble_eq_true rfl) (fun _ s11 => ?_)
        exact s_sub [2] rfl (hj1 s11)
    · refine s_aload_n 0 dX7_readNumber_59 rfl rfl ?_
      refine s_aload_n 0 dX7_readNumber_60 rfl rfl ?_
      refine s_geti dX7_readNumber_61 ly7 fl_X7_141 kd_328 rfl ?_
      refine s_Vv (rest := []) dX7_readNumber_64 lk_X7_158 meX7_fault (ctX7_fault B fu (s8 328 27) s8) kd_328 ⟨rfl, by decide⟩ rfl rfl ⟨rfl, rfl, by decide, by decide⟩ (Nat.le_of_ble_eq_true rfl) (fun _ s12 => ?_)
      refine s_goto (tgt := 91) dX7_readNumber_67 (by decide) ?_
      exact s_sub [2] rfl (hj1 s12)
abbrev rmX7_readStop : Room := { frames := 2, cells := 0, slots := 0, locals := 45 }
abbrev SX7_readStop (B : Nat) (X : Ctx) := Sim cX7_readStop RX7 4 rmX7_readStop B X
set_option maxHeartbeats 4000000 in
set_option maxRecDepth 100000 in
theorem fX7_readStop_L24_s {B fu : Nat} {X : Ctx} (hX : CxV B X) (c1 : Int) (k70 : Int → Mem → PR) (hk70 : ∀ (x6 : Int) (s8 : Mem), SX7_readStop B X (k70 x6 s8) s8 70 [(0, rv B 328), (1, iv c1), (2, iv x6)] []) : ∀ (n : Nat) (x4 : Int) (x5 : Int) (s7 : Mem), SX7_readStop B X (fX7_readStop_L24 fu c1 k70 n x4 x5 s7) s7 24 [(0, rv B 328), (1, iv c1), (2, iv x4), (3, iv x5)] [] := by
  intro n
  induction n with
  | zero => intro _ _ _; exact s_none
  | succ n ih =>
    intro x4 x5 s3
    rw [fX7_readStop_L24]
    refine s_iload_n 3 dX7_readStop_24 rfl rfl ?_
    refine s_aload_n 0 dX7_readStop_25 rfl rfl ?_
    refine s_getr (n := 14) (k' := 343) dX7_readStop_26 ly7 fl_X7_59 kd_328 rfl rfl rfl ?_
    refine s_aload_n 0 dX7_readStop_29 rfl rfl ?_
    refine s_geti dX7_readStop_30 ly7 fl_X7_147 kd_328 rfl ?_
    refine s_iald 12 dX7_readStop_33 kd_343 (by decide) (fun x7 => ?_)
    refine s_icmp_ge (tgt := 70) dX7_readStop_34 (by decide) ?_ ?_
    · exact s_sub [0, 1, 2] rfl (hk70 x4 s3)
    · refine s_iload_n 2 dX7_readStop_37 rfl rfl ?_
      refine s_if_eq (tgt := 70) dX7_readStop_38 (by decide) ?_ ?_
      · exact s_sub [0, 1, 2] rfl (hk70 x4 s3)
      · refine s_aload_n 0 dX7_readStop_41 rfl rfl ?_
        refine s_getr (n := 15) (k' := 344) dX7_readStop_42 ly7 fl_X7_62 kd_328 rfl rfl rfl ?_
        refine s_aload_n 0 dX7_readStop_45 rfl rfl ?_
        refine s_geti dX7_readStop_46 ly7 fl_X7_147 kd_328 rfl ?_
        refine s_iload_n 3 dX7_readStop_49 rfl rfl ?_
        refine s_Si (rest := [rv B 344]) dX7_readStop_50 lk_X7_165 meX7_at (ctX7_at B fu (s3 328 25) x5 s3) rfl rfl ⟨rfl, rfl, by decide, by decide⟩ (Nat.le_of_ble_eq_true rfl) (fun x8 s4 => ?_)
        refine s_iald 96 dX7_readStop_53 kd_344 (by decide) (fun x9 => ?_)
        refine s_iload_n 1 dX7_readStop_54 rfl rfl ?_
        refine s_jn (fun (j1 : Int → Mem → PR) => ∀ (x10 : Int) (s6 : Mem), SX7_readStop B X (j1 x10 s6) s6 63 [(0, rv B 328), (1, iv c1), (3, iv x5)] [iv x10]) ?_ (fun j1 hj1 => ?_)
        · intro x10 s5
          refine s_istore_n (lv' := [(2, iv x10), (0, rv B 328), (1, iv c1), (3, iv x5)]) dX7_readStop_63 rfl (by decide) rfl ?_
          refine s_iinc (lv' := [(3, iv (x5 + 1)), (2, iv x10), (0, rv B 328), (1, iv c1)]) 3 dX7_readStop_64 rfl (by decide) rfl ?_
          refine s_goto (tgt := 24) dX7_readStop_67 (by decide) ?_
          exact s_sub [2, 3, 1, 0] rfl (ih x10 (x5 + 1) s5)
        · refine s_icmp_eq (tgt := 62) dX7_readStop_55 (by decide) ?_ ?_
          · refine s_iconst dX7_readStop_62 ?_
            exact s_sub [0, 1, 3] rfl (hj1 0 s4)
          · refine s_iconst dX7_readStop_58 ?_
            refine s_goto (tgt := 63) dX7_readStop_59 (by decide) ?_
            exact s_sub [0, 1, 3] rfl (hj1 1 s4)
set_option maxHeartbeats 4000000 in
set_option maxRecDepth 100000 in
theorem ctX7_readStop (B fu : Nat) (σ : Mem) : CtV yX7_readStop cX7_readStop 4 none rmX7_readStop B [rv B 328] σ (fX7_readStop fu σ) := by
  refine ctV_intro (own := RX7) (lv := [(0, rv B 328)]) (by decide +kernel) rfl (Nat.le_of_ble_eq_true rfl) rfl (fun X hX => ?_)
  unfold fX7_readStop
  refine s_aload_n 0 dX7_readStop_0 rfl rfl ?_
  refine s_geti dX7_readStop_1 ly7 fl_X7_144 kd_328 rfl ?_
  refine s_iconst dX7_readStop_4 ?_
  refine s_icmp_eq (tgt := 9) dX7_readStop_5 (by decide) ?_ ?_
  · refine s_aload_n 0 dX7_readStop_9 rfl rfl ?_
    refine s_Vi (rest := []) dX7_readStop_10 lk_X7_150 meX7_sees (ctX7_sees B fu σ) kd_328 ⟨rfl, by decide⟩ rfl rfl ⟨rfl, rfl, by decide, by decide⟩ (Nat.le_of_ble_eq_true rfl) (fun x1 s1 => ?_)
    refine s_bipush dX7_readStop_13 (by decide) ?_
    refine s_isub dX7_readStop_15 ?_
    refine s_lti (fun x2 => ?_)
    refine s_istore_n (lv' := [(1, iv x2), (0, rv B 328)]) dX7_readStop_16 rfl (by decide) rfl ?_
    refine s_iload_n 0 dX7_readStop_17 rfl rfl ?_
    refine s_Si (rest := []) dX7_readStop_18 lk_X7_162 meX7_isStop (ctX7_isStop B fu x2 s1) rfl rfl ⟨rfl, rfl, by decide, by decide⟩ (Nat.le_of_ble_eq_true rfl) (fun x3 s2 => ?_)
    refine s_istore_n (lv' := [(2, iv x3), (1, iv x2), (0, rv B 328)]) dX7_readStop_21 rfl (by decide) rfl ?_
    refine s_iconst dX7_readStop_22 ?_
    refine s_istore_n (lv' := [(3, iv 0), (2, iv x3), (1, iv x2), (0, rv B 328)]) dX7_readStop_23 rfl (by decide) rfl ?_
    refine s_sub [3, 2, 1, 0] (lv' := [(0, rv B 328), (1, iv x2), (2, iv x3), (3, iv 0)]) rfl ?_
    refine fX7_readStop_L24_s hX x2 _ ?_ fu x3 0 s2
    intro x11 s9
    refine s_iload_n 2 dX7_readStop_70 rfl rfl ?_
    refine s_if_ne (tgt := 83) dX7_readStop_71 (by decide) ?_ ?_
    · refine s_aload_n 0 dX7_readStop_83 rfl rfl ?_
      refine s_dup dX7_readStop_84 rfl ?_
      refine s_geti dX7_readStop_85 ly7 fl_X7_141 kd_328 rfl ?_
      refine s_iconst dX7_readStop_88 ?_
      refine s_iadd dX7_readStop_89 ?_
      refine s_puti dX7_readStop_90 ly7 ty7 fl_X7_141 kd_328 rfl po7_27 ⟨rfl, rfl, by decide⟩ (fun s10 => ?_)
      refine s_aload_n 0 dX7_readStop_93 rfl rfl ?_
      refine s_getr (n := 15) (k' := 344) dX7_readStop_94 ly7 fl_X7_62 kd_328 rfl rfl rfl ?_
      refine s_aload_n 0 dX7_readStop_97 rfl rfl ?_
      refine s_geti dX7_readStop_98 ly7 fl_X7_147 kd_328 rfl ?_
      refine s_aload_n 0 dX7_readStop_101 rfl rfl ?_
      refine s_getr (n := 14) (k' := 343) dX7_readStop_102 ly7 fl_X7_59 kd_328 rfl rfl rfl ?_
      refine s_aload_n 0 dX7_readStop_105 rfl rfl ?_
      refine s_geti dX7_readStop_106 ly7 fl_X7_147 kd_328 rfl ?_
      refine s_iald 12 dX7_readStop_109 kd_343 (by decide) (fun x12 => ?_)
      refine s_Si (rest := [rv B 344]) dX7_readStop_110 lk_X7_165 meX7_at (ctX7_at B fu (s10 328 25) x12 s10) rfl rfl ⟨rfl, rfl, by decide, by decide⟩ (Nat.le_of_ble_eq_true rfl) (fun x13 s11 => ?_)
      refine s_iload_n 1 dX7_readStop_113 rfl rfl ?_
      refine s_iast 96 dX7_readStop_114 kd_344 (by decide) (fun s12 => ?_)
      refine s_aload_n 0 dX7_readStop_115 rfl rfl ?_
      refine s_getr (n := 14) (k' := 343) dX7_readStop_116 ly7 fl_X7_59 kd_328 rfl rfl rfl ?_
      refine s_aload_n 0 dX7_readStop_119 rfl rfl ?_
      refine s_geti dX7_readStop_120 ly7 fl_X7_147 kd_328 rfl ?_
      refine s_dup2 dX7_readStop_123 rfl rfl ?_
      refine s_iald 12 dX7_readStop_124 kd_343 (by decide) (fun x14 => ?_)
      refine s_iconst dX7_readStop_125 ?_
      refine s_iadd dX7_readStop_126 ?_
      refine s_iast 12 dX7_readStop_127 kd_343 (by decide) (fun s13 => ?_)
      exact s_vret hX dX7_readStop_128
    · refine s_aload_n 0 dX7_readStop_74 rfl rfl ?_
      refine s_aload_n 0 dX7_readStop_75 rfl rfl ?_
      refine s_geti dX7_readStop_76 ly7 fl_X7_141 kd_328 rfl ?_
      refine s_Vv (rest := []) dX7_readStop_79 lk_X7_158 meX7_fault (ctX7_fault B fu (s9 328 27) s9) kd_328 ⟨rfl, by decide⟩ rfl rfl ⟨rfl, rfl, by decide, by decide⟩ (Nat.le_of_ble_eq_true rfl) (fun _ s14 => ?_)
      exact s_vret hX dX7_readStop_82
  · exact s_vret hX dX7_readStop_8
abbrev rmX7_expect : Room := { frames := 1, cells := 0, slots := 0, locals := 21 }
abbrev SX7_expect (B : Nat) (X : Ctx) := Sim cX7_expect RX7 2 rmX7_expect B X
set_option maxHeartbeats 4000000 in
set_option maxRecDepth 100000 in
theorem ctX7_expect (B fu : Nat) (a0 : Int) (σ : Mem) : CtV yX7_expect cX7_expect 2 none rmX7_expect B [rv B 328, iv a0] σ (fX7_expect fu a0 σ) := by
  refine ctV_intro (own := RX7) (lv := [(0, rv B 328), (1, iv a0)]) (by decide +kernel) rfl (Nat.le_of_ble_eq_true rfl) rfl (fun X hX => ?_)
  unfold fX7_expect
  refine s_aload_n 0 dX7_expect_0 rfl rfl ?_
  refine s_geti dX7_expect_1 ly7 fl_X7_144 kd_328 rfl ?_
  refine s_iconst dX7_expect_4 ?_
  refine s_icmp_eq (tgt := 9) dX7_expect_5 (by decide) ?_ ?_
  · refine s_aload_n 0 dX7_expect_9 rfl rfl ?_
    refine s_Vi (rest := []) dX7_expect_10 lk_X7_150 meX7_sees (ctX7_sees B fu σ) kd_328 ⟨rfl, by decide⟩ rfl rfl ⟨rfl, rfl, by decide, by decide⟩ (Nat.le_of_ble_eq_true rfl) (fun x1 s1 => ?_)
    refine s_iload_n 1 dX7_expect_13 rfl rfl ?_
    refine s_jn (fun (j1 : Mem → PR) => ∀ (s5 : Mem), SX7_expect B X (j1 s5) s5 38 [] []) ?_ (fun j1 hj1 => ?_)
    · intro s2
      exact s_vret hX dX7_expect_38
    · refine s_icmp_ne (tgt := 30) dX7_expect_14 (by decide) ?_ ?_
      · refine s_aload_n 0 dX7_expect_30 rfl rfl ?_
        refine s_aload_n 0 dX7_expect_31 rfl rfl ?_
        refine s_geti dX7_expect_32 ly7 fl_X7_141 kd_328 rfl ?_
        refine s_Vv (rest := []) dX7_expect_35 lk_X7_158 meX7_fault (ctX7_fault B fu (s1 328 27) s1) kd_328 ⟨rfl, by decide⟩ rfl rfl ⟨rfl, rfl, by decide, by decide⟩ (Nat.le_of_ble_eq_true rfl) (fun _ s3 => ?_)
        exact s_sub [] rfl (hj1 s3)
      · refine s_aload_n 0 dX7_expect_17 rfl rfl ?_
        refine s_dup dX7_expect_18 rfl ?_
        refine s_geti dX7_expect_19 ly7 fl_X7_141 kd_328 rfl ?_
        refine s_iconst dX7_expect_22 ?_
        refine s_iadd dX7_expect_23 ?_
        refine s_puti dX7_expect_24 ly7 ty7 fl_X7_141 kd_328 rfl po7_27 ⟨rfl, rfl, by decide⟩ (fun s4 => ?_)
        refine s_goto (tgt := 38) dX7_expect_27 (by decide) ?_
        exact s_sub [] rfl (hj1 s4)
  · exact s_vret hX dX7_expect_8
abbrev rmX7_readsBack : Room := { frames := 1, cells := 0, slots := 0, locals := 21 }
abbrev SX7_readsBack (B : Nat) (X : Ctx) := Sim cX7_readsBack RX7 4 rmX7_readsBack B X
set_option maxHeartbeats 4000000 in
set_option maxRecDepth 100000 in
theorem fX7_readsBack_L41_s {B fu : Nat} {X : Ctx} (hX : CxV B X) (c1 : Int) (c2 : Int) (k79 : Mem → PR) (hk79 : ∀ (s8 : Mem), SX7_readsBack B X (k79 s8) s8 79 [(0, rv B 328), (1, iv c1), (2, iv c2)] []) : ∀ (n : Nat) (x4 : Int) (s7 : Mem), SX7_readsBack B X (fX7_readsBack_L41 fu c1 c2 k79 n x4 s7) s7 41 [(0, rv B 328), (1, iv c1), (2, iv c2), (3, iv x4)] [] := by
  intro n
  induction n with
  | zero => intro _ _; exact s_none
  | succ n ih =>
    intro x4 s3
    rw [fX7_readsBack_L41]
    refine s_iload_n 3 dX7_readsBack_41 rfl rfl ?_
    refine s_iload_n 2 dX7_readsBack_42 rfl rfl ?_
    refine s_icmp_ge (tgt := 79) dX7_readsBack_43 (by decide) ?_ ?_
    · exact s_sub [0, 1, 2] rfl (hk79 s3)
    · refine s_aload_n 0 dX7_readsBack_46 rfl rfl ?_
      refine s_getr (n := 15) (k' := 344) dX7_readsBack_47 ly7 fl_X7_62 kd_328 rfl rfl rfl ?_
      refine s_aload_n 0 dX7_readsBack_50 rfl rfl ?_
      refine s_geti dX7_readsBack_51 ly7 fl_X7_147 kd_328 rfl ?_
      refine s_iload_n 3 dX7_readsBack_54 rfl rfl ?_
      refine s_Si (rest := [rv B 344]) dX7_readsBack_55 lk_X7_165 meX7_at (ctX7_at B fu (s3 328 25) x4 s3) rfl rfl ⟨rfl, rfl, by decide, by decide⟩ (Nat.le_of_ble_eq_true rfl) (fun x5 s4 => ?_)
      refine s_aload_n 0 dX7_readsBack_58 rfl rfl ?_
      refine s_getr (n := 15) (k' := 344) dX7_readsBack_59 ly7 fl_X7_62 kd_328 rfl rfl rfl ?_
      refine s_iload_n 1 dX7_readsBack_62 rfl rfl ?_
      refine s_iload_n 2 dX7_readsBack_63 rfl rfl ?_
      refine s_iconst dX7_readsBack_64 ?_
      refine s_isub dX7_readsBack_65 ?_
      refine s_iload_n 3 dX7_readsBack_66 rfl rfl ?_
      refine s_isub dX7_readsBack_67 ?_
      refine s_Si (rest := [rv B 344, iv x5, rv B 344]) dX7_readsBack_68 lk_X7_165 meX7_at (ctX7_at B fu c1 ((c2 - 1) - x4) s4) rfl rfl ⟨rfl, rfl, by decide, by decide⟩ (Nat.le_of_ble_eq_true rfl) (fun x6 s5 => ?_)
      refine s_iald 96 dX7_readsBack_71 kd_344 (by decide) (fun x7 => ?_)
      refine s_iast 96 dX7_readsBack_72 kd_344 (by decide) (fun s6 => ?_)
      refine s_iinc (lv' := [(3, iv (x4 + 1)), (0, rv B 328), (1, iv c1), (2, iv c2)]) 3 dX7_readsBack_73 rfl (by decide) rfl ?_
      refine s_goto (tgt := 41) dX7_readsBack_76 (by decide) ?_
      exact s_sub [1, 2, 3, 0] rfl (ih (x4 + 1) s6)
set_option maxHeartbeats 4000000 in
set_option maxRecDepth 100000 in
theorem fX7_readsBack_L81_s {B fu : Nat} {X : Ctx} (hX : CxV B X) (c3 : Int) (c4 : Int) (k121 : Mem → PR) (hk121 : ∀ (s15 : Mem), SX7_readsBack B X (k121 s15) s15 121 [(0, rv B 328)] []) : ∀ (n : Nat) (x8 : Int) (s14 : Mem), SX7_readsBack B X (fX7_readsBack_L81 fu c3 c4 k121 n x8 s14) s14 81 [(0, rv B 328), (1, iv c3), (2, iv c4), (3, iv x8)] [] := by
  intro n
  induction n with
  | zero => intro _ _; exact s_none
  | succ n ih =>
    intro x8 s10
    rw [fX7_readsBack_L81]
    refine s_iload_n 3 dX7_readsBack_81 rfl rfl ?_
    refine s_iload_n 2 dX7_readsBack_82 rfl rfl ?_
    refine s_iconst dX7_readsBack_83 ?_
    refine s_isub dX7_readsBack_84 ?_
    refine s_icmp_ge (tgt := 121) dX7_readsBack_85 (by decide) ?_ ?_
    · exact s_sub [0] rfl (hk121 s10)
    · refine s_aload_n 0 dX7_readsBack_88 rfl rfl ?_
      refine s_getr (n := 16) (k' := 345) dX7_readsBack_89 ly7 fl_X7_65 kd_328 rfl rfl rfl ?_
      refine s_aload_n 0 dX7_readsBack_92 rfl rfl ?_
      refine s_geti dX7_readsBack_93 ly7 fl_X7_147 kd_328 rfl ?_
      refine s_iload_n 3 dX7_readsBack_96 rfl rfl ?_
      refine s_Si (rest := [rv B 345]) dX7_readsBack_97 lk_X7_165 meX7_at (ctX7_at B fu (s10 328 25) x8 s10) rfl rfl ⟨rfl, rfl, by decide, by decide⟩ (Nat.le_of_ble_eq_true rfl) (fun x9 s11 => ?_)
      refine s_aload_n 0 dX7_readsBack_100 rfl rfl ?_
      refine s_getr (n := 16) (k' := 345) dX7_readsBack_101 ly7 fl_X7_65 kd_328 rfl rfl rfl ?_
      refine s_iload_n 1 dX7_readsBack_104 rfl rfl ?_
      refine s_iload_n 2 dX7_readsBack_105 rfl rfl ?_
      refine s_iconst dX7_readsBack_106 ?_
      refine s_isub dX7_readsBack_107 ?_
      refine s_iload_n 3 dX7_readsBack_108 rfl rfl ?_
      refine s_isub dX7_readsBack_109 ?_
      refine s_Si (rest := [rv B 345, iv x9, rv B 345]) dX7_readsBack_110 lk_X7_165 meX7_at (ctX7_at B fu c3 ((c4 - 2) - x8) s11) rfl rfl ⟨rfl, rfl, by decide, by decide⟩ (Nat.le_of_ble_eq_true rfl) (fun x10 s12 => ?_)
      refine s_iald 96 dX7_readsBack_113 kd_345 (by decide) (fun x11 => ?_)
      refine s_iast 96 dX7_readsBack_114 kd_345 (by decide) (fun s13 => ?_)
      refine s_iinc (lv' := [(3, iv (x8 + 1)), (0, rv B 328), (1, iv c3), (2, iv c4)]) 3 dX7_readsBack_115 rfl (by decide) rfl ?_
      refine s_goto (tgt := 81) dX7_readsBack_118 (by decide) ?_
      exact s_sub [1, 2, 3, 0] rfl (ih (x8 + 1) s13)
set_option maxHeartbeats 4000000 in
set_option maxRecDepth 100000 in
theorem ctX7_readsBack (B fu : Nat) (σ : Mem) : CtV yX7_readsBack cX7_readsBack 4 none rmX7_readsBack B [rv B 328] σ (fX7_readsBack fu σ) := by
  refine ctV_intro (own := RX7) (lv := [(0, rv B 328)]) (by decide +kernel) rfl (Nat.le_of_ble_eq_true rfl) rfl (fun X hX => ?_)
  unfold fX7_readsBack
  refine s_aload_n 0 dX7_readsBack_0 rfl rfl ?_
  refine s_geti dX7_readsBack_1 ly7 fl_X7_147 kd_328 rfl ?_
  refine s_iconst dX7_readsBack_4 ?_
  refine s_isub dX7_readsBack_5 ?_
  refine s_lti (fun x1 => ?_)
  refine s_istore_n (lv' := [(1, iv x1), (0, rv B 328)]) dX7_readsBack_6 rfl (by decide) rfl ?_
  refine s_aload_n 1 dX7_readsBack_7 rfl rfl ?_
  refine s_getr (n := 14) (k' := 343) dX7_readsBack_8 ly7 fl_X7_59 kd_328 rfl rfl rfl ?_
  refine s_iload_n 0 dX7_readsBack_11 rfl rfl ?_
  refine s_iald 12 dX7_readsBack_12 kd_343 (by decide) (fun x2 => ?_)
  refine s_istore_n (lv' := [(2, iv x2), (1, iv x1), (0, rv B 328)]) dX7_readsBack_13 rfl (by decide) rfl ?_
  refine s_aload_n 2 dX7_readsBack_14 rfl rfl ?_
  refine s_getr (n := 13) (k' := 342) dX7_readsBack_15 ly7 fl_X7_56 kd_328 rfl rfl rfl ?_
  refine s_aload_n 2 dX7_readsBack_18 rfl rfl ?_
  refine s_geti dX7_readsBack_19 ly7 fl_X7_147 kd_328 rfl ?_
  refine s_aload_n 2 dX7_readsBack_22 rfl rfl ?_
  refine s_getr (n := 13) (k' := 342) dX7_readsBack_23 ly7 fl_X7_56 kd_328 rfl rfl rfl ?_
  refine s_iload_n 1 dX7_readsBack_26 rfl rfl ?_
  refine s_iald 12 dX7_readsBack_27 kd_342 (by decide) (fun x3 => ?_)
  refine s_iast 12 dX7_readsBack_28 kd_342 (by decide) (fun s1 => ?_)
  refine s_aload_n 2 dX7_readsBack_29 rfl rfl ?_
  refine s_getr (n := 14) (k' := 343) dX7_readsBack_30 ly7 fl_X7_59 kd_328 rfl rfl rfl ?_
  refine s_aload_n 2 dX7_readsBack_33 rfl rfl ?_
  refine s_geti dX7_readsBack_34 ly7 fl_X7_147 kd_328 rfl ?_
  refine s_iload_n 0 dX7_readsBack_37 rfl rfl ?_
  refine s_iast 12 dX7_readsBack_38 kd_343 (by decide) (fun s2 => ?_)
  refine s_iconst dX7_readsBack_39 ?_
  refine s_istore_n (lv' := [(3, iv 0), (2, iv x2), (1, iv x1), (0, rv B 328)]) dX7_readsBack_40 rfl (by decide) rfl ?_
  refine s_sub [3, 2, 1, 0] (lv' := [(0, rv B 328), (1, iv x1), (2, iv x2), (3, iv 0)]) rfl ?_
  refine fX7_readsBack_L41_s hX x1 x2 _ ?_ fu 0 s2
  intro s9
  refine s_iconst dX7_readsBack_79 ?_
  refine s_istore_n (lv' := [(3, iv 0), (0, rv B 328), (1, iv x1), (2, iv x2)]) dX7_readsBack_80 rfl (by decide) rfl ?_
  refine s_sub [1, 2, 3, 0] (lv' := [(0, rv B 328), (1, iv x1), (2, iv x2), (3, iv 0)]) rfl ?_
  refine fX7_readsBack_L81_s hX x1 x2 _ ?_ fu 0 s9
  intro s16
  refine s_aload_n 0 dX7_readsBack_121 rfl rfl ?_
  refine s_dup dX7_readsBack_122 rfl ?_
  refine s_geti dX7_readsBack_123 ly7 fl_X7_147 kd_328 rfl ?_
  refine s_iconst dX7_readsBack_126 ?_
  refine s_iadd dX7_readsBack_127 ?_
  refine s_puti dX7_readsBack_128 ly7 ty7 fl_X7_147 kd_328 rfl po7_25 ⟨rfl, rfl, by decide⟩ (fun s17 => ?_)
  exact s_vret hX dX7_readsBack_131
abbrev rmX7_readLine : Room := { frames := 3, cells := 0, slots := 0, locals := 68 }
abbrev SX7_readLine (B : Nat) (X : Ctx) := Sim cX7_readLine RX7 5 rmX7_readLine B X
set_option maxHeartbeats 4000000 in
set_option maxRecDepth 100000 in
theorem fX7_readLine_L121_s {B fu : Nat} {X : Ctx} (hX : CxV B X) (c1 : Int) (k135 : Mem → PR) (hk135 : ∀ (s18 : Mem), SX7_readLine B X (k135 s18) s18 135 [] []) (k210 : Mem → PR) (hk210 : ∀ (s19 : Mem), SX7_readLine B X (k210 s19) s19 210 [(0, rv B 328), (3, iv c1)] []) : ∀ (n : Nat) (s17 : Mem), SX7_readLine B X (fX7_readLine_L121 fu c1 k135 k210 n s17) s17 121 [(0, rv B 328), (3, iv c1)] [] := by
  intro n
  induction n with
  | zero => intro _; exact s_none
  | succ n ih =>
    intro s9
    rw [fX7_readLine_L121]
    refine s_aload_n 0 dX7_readLine_121 rfl rfl ?_
    refine s_bipush dX7_readLine_122 (by decide) ?_
    refine s_Vv (rest := []) dX7_readLine_124 lk_X7_173 meX7_expect (ctX7_expect B fu 45 s9) kd_328 ⟨rfl, by decide⟩ rfl rfl ⟨rfl, rfl, by decide, by decide⟩ (Nat.le_of_ble_eq_true rfl) (fun _ s10 => ?_)
    refine s_aload_n 0 dX7_readLine_127 rfl rfl ?_
    refine s_geti dX7_readLine_128 ly7 fl_X7_144 kd_328 rfl ?_
    refine s_iconst dX7_readLine_131 ?_
    refine s_icmp_eq (tgt := 136) dX7_readLine_132 (by decide) ?_ ?_
    · refine s_aload_n 0 dX7_readLine_136 rfl rfl ?_
      refine s_bipush dX7_readLine_137 (by decide) ?_
      refine s_Vi (rest := []) dX7_readLine_139 lk_X7_169 meX7_readNumber (ctX7_readNumber B fu 99 s10) kd_328 ⟨rfl, by decide⟩ rfl rfl ⟨rfl, rfl, by decide, by decide⟩ (Nat.le_of_ble_eq_true rfl) (fun x5 s11 => ?_)
      refine s_istore (lv' := [(4, iv x5), (0, rv B 328), (3, iv c1)]) dX7_readLine_142 (by decide) rfl ?_
      refine s_aload_n 1 dX7_readLine_144 rfl rfl ?_
      refine s_bipush dX7_readLine_145 (by decide) ?_
      refine s_Vv (rest := []) dX7_readLine_147 lk_X7_173 meX7_expect (ctX7_expect B fu 45 s11) kd_328 ⟨rfl, by decide⟩ rfl rfl ⟨rfl, rfl, by decide, by decide⟩ (Nat.le_of_ble_eq_true rfl) (fun _ s12 => ?_)
      refine s_aload_n 1 dX7_readLine_150 rfl rfl ?_
      refine s_getr (n := 16) (k' := 345) dX7_readLine_151 ly7 fl_X7_65 kd_328 rfl rfl rfl ?_
      refine s_aload_n 1 dX7_readLine_154 rfl rfl ?_
      refine s_geti dX7_readLine_155 ly7 fl_X7_147 kd_328 rfl ?_
      refine s_aload_n 1 dX7_readLine_158 rfl rfl ?_
      refine s_getr (n := 14) (k' := 343) dX7_readLine_159 ly7 fl_X7_59 kd_328 rfl rfl rfl ?_
      refine s_aload_n 1 dX7_readLine_162 rfl rfl ?_
      refine s_geti dX7_readLine_163 ly7 fl_X7_147 kd_328 rfl ?_
      refine s_iald 12 dX7_readLine_166 kd_343 (by decide) (fun x6 => ?_)
      refine s_iconst dX7_readLine_167 ?_
      refine s_isub dX7_readLine_168 ?_
      refine s_Si (rest := [rv B 345]) dX7_readLine_169 lk_X7_165 meX7_at (ctX7_at B fu (s12 328 25) (x6 - 1) s12) rfl rfl ⟨rfl, rfl, by decide, by decide⟩ (Nat.le_of_ble_eq_true rfl) (fun x7 s13 => ?_)
      refine s_iload 0 dX7_readLine_172 rfl ?_
      refine s_iast 96 dX7_readLine_174 kd_345 (by decide) (fun s14 => ?_)
      refine s_aload_n 1 dX7_readLine_175 rfl rfl ?_
      refine s_Vv (rest := []) dX7_readLine_176 lk_X7_177 meX7_readStop (ctX7_readStop B fu s14) kd_328 ⟨rfl, by decide⟩ rfl rfl ⟨rfl, rfl, by decide, by decide⟩ (Nat.le_of_ble_eq_true rfl) (fun _ s15 => ?_)
      refine s_aload_n 1 dX7_readLine_179 rfl rfl ?_
      refine s_geti dX7_readLine_180 ly7 fl_X7_144 kd_328 rfl ?_
      refine s_iconst dX7_readLine_183 ?_
      refine s_icmp_ne (tgt := 210) dX7_readLine_184 (by decide) ?_ ?_
      · exact s_sub [1, 2] rfl (hk210 s15)
      · refine s_aload_n 1 dX7_readLine_187 rfl rfl ?_
        refine s_Vi (rest := []) dX7_readLine_188 lk_X7_150 meX7_sees (ctX7_sees B fu s15) kd_328 ⟨rfl, by decide⟩ rfl rfl ⟨rfl, rfl, by decide, by decide⟩ (Nat.le_of_ble_eq_true rfl) (fun x8 s16 => ?_)
        refine s_bipush dX7_readLine_191 (by decide) ?_
        refine s_icmp_ne (tgt := 210) dX7_readLine_193 (by decide) ?_ ?_
        · exact s_sub [1, 2] rfl (hk210 s16)
        · refine s_aload_n 1 dX7_readLine_196 rfl rfl ?_
          refine s_getr (n := 14) (k' := 343) dX7_readLine_197 ly7 fl_X7_59 kd_328 rfl rfl rfl ?_
          refine s_aload_n 1 dX7_readLine_200 rfl rfl ?_
          refine s_geti dX7_readLine_201 ly7 fl_X7_147 kd_328 rfl ?_
          refine s_iald 12 dX7_readLine_204 kd_343 (by decide) (fun x9 => ?_)
          refine s_bipush dX7_readLine_205 (by decide) ?_
          refine s_icmp_lt (tgt := 121) dX7_readLine_207 (by decide) ?_ ?_
          · exact s_sub [1, 2] rfl (ih s16)
          · exact s_sub [1, 2] rfl (hk210 s16)
    · exact s_sub [] rfl (hk135 s10)
set_option maxHeartbeats 4000000 in
set_option maxRecDepth 100000 in
theorem ctX7_readLine (B fu : Nat) (a0 : Int) (σ : Mem) : CtV yX7_readLine cX7_readLine 5 none rmX7_readLine B [rv B 328, iv a0] σ (fX7_readLine fu a0 σ) := by
  refine ctV_intro (own := RX7) (lv := [(0, rv B 328), (1, iv a0)]) (by decide +kernel) rfl (Nat.le_of_ble_eq_true rfl) rfl (fun X hX => ?_)
  unfold fX7_readLine
  refine s_aload_n 0 dX7_readLine_0 rfl rfl ?_
  refine s_geti dX7_readLine_1 ly7 fl_X7_141 kd_328 rfl ?_
  refine s_lti (fun x1 => ?_)
  refine s_istore_n (lv' := [(2, iv x1), (0, rv B 328), (1, iv a0)]) dX7_readLine_4 rfl (by decide) rfl ?_
  refine s_iload_n 2 dX7_readLine_5 rfl rfl ?_
  refine s_aload_n 1 dX7_readLine_6 rfl rfl ?_
  refine s_geti dX7_readLine_7 ly7 fl_X7_147 kd_328 rfl ?_
  refine s_iadd dX7_readLine_10 ?_
  refine s_bipush dX7_readLine_11 (by decide) ?_
  refine s_icmp_ne (tgt := 25) dX7_readLine_13 (by decide) ?_ ?_
  · refine s_aload_n 1 dX7_readLine_25 rfl rfl ?_
    refine s_getr (n := 14) (k' := 343) dX7_readLine_26 ly7 fl_X7_59 kd_328 rfl rfl rfl ?_
    refine s_aload_n 1 dX7_readLine_29 rfl rfl ?_
    refine s_geti dX7_readLine_30 ly7 fl_X7_147 kd_328 rfl ?_
    refine s_iconst dX7_readLine_33 ?_
    refine s_iast 12 dX7_readLine_34 kd_343 (by decide) (fun s1 => ?_)
    refine s_aload_n 1 dX7_readLine_35 rfl rfl ?_
    refine s_getr (n := 13) (k' := 342) dX7_readLine_36 ly7 fl_X7_56 kd_328 rfl rfl rfl ?_
    refine s_aload_n 1 dX7_readLine_39 rfl rfl ?_
    refine s_geti dX7_readLine_40 ly7 fl_X7_147 kd_328 rfl ?_
    refine s_aload_n 1 dX7_readLine_43 rfl rfl ?_
    refine s_bipush dX7_readLine_44 (by decide) ?_
    refine s_Vi (rest := [iv (s1 328 25), rv B 342]) dX7_readLine_46 lk_X7_169 meX7_readNumber (ctX7_readNumber B fu 60 s1) kd_328 ⟨rfl, by decide⟩ rfl rfl ⟨rfl, rfl, by decide, by decide⟩ (Nat.le_of_ble_eq_true rfl) (fun x2 s2 => ?_)
    refine s_iast 12 dX7_readLine_49 kd_342 (by decide) (fun s3 => ?_)
    refine s_aload_n 1 dX7_readLine_50 rfl rfl ?_
    refine s_Vi (rest := []) dX7_readLine_51 lk_X7_150 meX7_sees (ctX7_sees B fu s3) kd_328 ⟨rfl, by decide⟩ rfl rfl ⟨rfl, rfl, by decide, by decide⟩ (Nat.le_of_ble_eq_true rfl) (fun x3 s4 => ?_)
    refine s_bipush dX7_readLine_54 (by decide) ?_
    refine s_jn (fun (j1 : Int → Mem → PR) => ∀ (x4 : Int) (s31 : Mem), SX7_readLine B X (j1 x4 s31) s31 64 [(0, rv B 328), (1, iv a0), (2, iv x1)] [iv x4]) ?_ (fun j1 hj1 => ?_)
    · intro x4 s5
      refine s_istore_n (lv' := [(3, iv x4), (0, rv B 328), (1, iv a0), (2, iv x1)]) dX7_readLine_64 rfl (by decide) rfl ?_
      refine s_aload_n 1 dX7_readLine_65 rfl rfl ?_
      refine s_geti dX7_readLine_66 ly7 fl_X7_144 kd_328 rfl ?_
      refine s_iconst dX7_readLine_69 ?_
      refine s_jn (fun (j2 : Mem → PR) => ∀ (s30 : Mem), SX7_readLine B X (j2 s30) s30 94 [(0, rv B 328), (3, iv x4)] []) ?_ (fun j2 hj2 => ?_)
      · intro s6
        refine s_iload_n 1 dX7_readLine_94 rfl rfl ?_
        refine s_jn (fun (j3 : Mem → PR) => ∀ (s28 : Mem), SX7_readLine B X (j3 s28) s28 117 [(0, rv B 328), (3, iv x4)] []) ?_ (fun j3 hj3 => ?_)
        · intro s7
          refine s_aload_n 0 dX7_readLine_117 rfl rfl ?_
          refine s_Vv (rest := []) dX7_readLine_118 lk_X7_177 meX7_readStop (ctX7_readStop B fu s7) kd_328 ⟨rfl, by decide⟩ rfl rfl ⟨rfl, rfl, by decide, by decide⟩ (Nat.le_of_ble_eq_true rfl) (fun _ s8 => ?_)
          refine fX7_readLine_L121_s hX x4 _ ?_ _ ?_ fu s8
          · intro s20
            exact s_vret hX dX7_readLine_135
          · intro s21
            refine s_aload_n 0 dX7_readLine_210 rfl rfl ?_
            refine s_dup dX7_readLine_211 rfl ?_
            refine s_geti dX7_readLine_212 ly7 fl_X7_147 kd_328 rfl ?_
            refine s_iconst dX7_readLine_215 ?_
            refine s_iadd dX7_readLine_216 ?_
            refine s_puti dX7_readLine_217 ly7 ty7 fl_X7_147 kd_328 rfl po7_25 ⟨rfl, rfl, by decide⟩ (fun s22 => ?_)
            refine s_iload_n 1 dX7_readLine_220 rfl rfl ?_
            refine s_jn (fun (j4 : Mem → PR) => ∀ (s25 : Mem), SX7_readLine B X (j4 s25) s25 228 [] []) ?_ (fun j4 hj4 => ?_)
            · intro s23
              exact s_vret hX dX7_readLine_228
            · refine s_if_eq (tgt := 228) dX7_readLine_221 (by decide) ?_ ?_
              · exact s_sub [] rfl (hj4 s22)
              · refine s_aload_n 0 dX7_readLine_224 rfl rfl ?_
                refine s_Vv (rest := []) dX7_readLine_225 lk_X7_180 meX7_readsBack (ctX7_readsBack B fu s22) kd_328 ⟨rfl, by decide⟩ rfl rfl ⟨rfl, rfl, by decide, by decide⟩ (Nat.le_of_ble_eq_true rfl) (fun _ s24 => ?_)
                exact s_sub [] rfl (hj4 s24)
        · refine s_if_eq (tgt := 111) dX7_readLine_95 (by decide) ?_ ?_
          · refine s_aload_n 0 dX7_readLine_111 rfl rfl ?_
            refine s_bipush dX7_readLine_112 (by decide) ?_
            refine s_Vv (rest := []) dX7_readLine_114 lk_X7_173 meX7_expect (ctX7_expect B fu 58 s6) kd_328 ⟨rfl, by decide⟩ rfl rfl ⟨rfl, rfl, by decide, by decide⟩ (Nat.le_of_ble_eq_true rfl) (fun _ s26 => ?_)
            exact hj3 s26
          · refine s_aload_n 0 dX7_readLine_98 rfl rfl ?_
            refine s_dup dX7_readLine_99 rfl ?_
            refine s_geti dX7_readLine_100 ly7 fl_X7_141 kd_328 rfl ?_
            refine s_iconst dX7_readLine_103 ?_
            refine s_iadd dX7_readLine_104 ?_
            refine s_puti dX7_readLine_105 ly7 ty7 fl_X7_141 kd_328 rfl po7_27 ⟨rfl, rfl, by decide⟩ (fun s27 => ?_)
            refine s_goto (tgt := 117) dX7_readLine_108 (by decide) ?_
            exact hj3 s27
      · refine s_icmp_ne (tgt := 94) dX7_readLine_70 (by decide) ?_ ?_
        · exact s_sub [1, 0] rfl (hj2 s5)
        · refine s_iload_n 0 dX7_readLine_73 rfl rfl ?_
          refine s_if_eq (tgt := 94) dX7_readLine_74 (by decide) ?_ ?_
          · exact s_sub [1, 0] rfl (hj2 s5)
          · refine s_iload_n 2 dX7_readLine_77 rfl rfl ?_
            refine s_aload_n 1 dX7_readLine_78 rfl rfl ?_
            refine s_geti dX7_readLine_79 ly7 fl_X7_147 kd_328 rfl ?_
            refine s_iadd dX7_readLine_82 ?_
            refine s_bipush dX7_readLine_83 (by decide) ?_
            refine s_icmp_ne (tgt := 94) dX7_readLine_85 (by decide) ?_ ?_
            · exact s_sub [1, 0] rfl (hj2 s5)
            · refine s_aload_n 1 dX7_readLine_88 rfl rfl ?_
              refine s_iload_n 3 dX7_readLine_89 rfl rfl ?_
              refine s_Vv (rest := []) dX7_readLine_90 lk_X7_158 meX7_fault (ctX7_fault B fu x1 s5) kd_328 ⟨rfl, by decide⟩ rfl rfl ⟨rfl, rfl, by decide, by decide⟩ (Nat.le_of_ble_eq_true rfl) (fun _ s29 => ?_)
              exact s_vret hX dX7_readLine_93
    · refine s_icmp_ne (tgt := 63) dX7_readLine_56 (by decide) ?_ ?_
      · refine s_iconst dX7_readLine_63 ?_
        exact s_sub [1, 2, 0] rfl (hj1 0 s4)
      · refine s_iconst dX7_readLine_59 ?_
        refine s_goto (tgt := 64) dX7_readLine_60 (by decide) ?_
        exact s_sub [1, 2, 0] rfl (hj1 1 s4)
  · refine s_aload_n 1 dX7_readLine_16 rfl rfl ?_
    refine s_aload_n 1 dX7_readLine_17 rfl rfl ?_
    refine s_geti dX7_readLine_18 ly7 fl_X7_141 kd_328 rfl ?_
    refine s_Vv (rest := []) dX7_readLine_21 lk_X7_158 meX7_fault (ctX7_fault B fu (σ 328 27) σ) kd_328 ⟨rfl, by decide⟩ rfl rfl ⟨rfl, rfl, by decide, by decide⟩ (Nat.le_of_ble_eq_true rfl) (fun _ s32 => ?_)
    exact s_vret hX dX7_readLine_24
abbrev rmX7_takesRead : Room := { frames := 1, cells := 0, slots := 0, locals := 21 }
abbrev SX7_takesRead (B : Nat) (X : Ctx) := Sim cX7_takesRead RX7 4 rmX7_takesRead B X
set_option maxHeartbeats 4000000 in
set_option maxRecDepth 100000 in
theorem fX7_takesRead_L63_s {B fu : Nat} {X : Ctx} (hX : CxV B X) (c1 : Int) (c2 : Int) (k137 : Mem → PR) (hk137 : ∀ (s19 : Mem), SX7_takesRead B X (k137 s19) s19 137 [(0, rv B 328), (1, iv c1)] []) : ∀ (n : Nat) (x5 : Int) (s18 : Mem), SX7_takesRead B X (fX7_takesRead_L63 fu c1 c2 k137 n x5 s18) s18 63 [(0, rv B 328), (1, iv c1), (2, iv c2), (3, iv x5)] [] := by
  intro n
  induction n with
  | zero => intro _ _; exact s_none
  | succ n ih =>
    intro x5 s7
    rw [fX7_takesRead_L63]
    refine s_iload_n 3 dX7_takesRead_63 rfl rfl ?_
    refine s_bipush dX7_takesRead_64 (by decide) ?_
    refine s_icmp_ge (tgt := 137) dX7_takesRead_66 (by decide) ?_ ?_
    · exact s_sub [0, 1] rfl (hk137 s7)
    · refine s_aload_n 0 dX7_takesRead_69 rfl rfl ?_
      refine s_getr (n := 2) (k' := 331) dX7_takesRead_70 ly7 fl_X7_16 kd_328 rfl rfl rfl ?_
      refine s_iload_n 2 dX7_takesRead_73 rfl rfl ?_
      refine s_iload_n 3 dX7_takesRead_74 rfl rfl ?_
      refine s_Si (rest := [rv B 331]) dX7_takesRead_75 lk_X7_165 meX7_at (ctX7_at B fu c2 x5 s7) rfl rfl ⟨rfl, rfl, by decide, by decide⟩ (Nat.le_of_ble_eq_true rfl) (fun x6 s8 => ?_)
      refine s_aload_n 0 dX7_takesRead_78 rfl rfl ?_
      refine s_getr (n := 15) (k' := 344) dX7_takesRead_79 ly7 fl_X7_62 kd_328 rfl rfl rfl ?_
      refine s_iload_n 1 dX7_takesRead_82 rfl rfl ?_
      refine s_iload_n 3 dX7_takesRead_83 rfl rfl ?_
      refine s_Si (rest := [rv B 344, iv x6, rv B 331]) dX7_takesRead_84 lk_X7_165 meX7_at (ctX7_at B fu c1 x5 s8) rfl rfl ⟨rfl, rfl, by decide, by decide⟩ (Nat.le_of_ble_eq_true rfl) (fun x7 s9 => ?_)
      refine s_iald 96 dX7_takesRead_87 kd_344 (by decide) (fun x8 => ?_)
      refine s_iast 96 dX7_takesRead_88 kd_331 (by decide) (fun s10 => ?_)
      refine s_aload_n 0 dX7_takesRead_89 rfl rfl ?_
      refine s_getr (n := 3) (k' := 332) dX7_takesRead_90 ly7 fl_X7_19 kd_328 rfl rfl rfl ?_
      refine s_iload_n 2 dX7_takesRead_93 rfl rfl ?_
      refine s_iload_n 3 dX7_takesRead_94 rfl rfl ?_
      refine s_Si (rest := [rv B 332]) dX7_takesRead_95 lk_X7_165 meX7_at (ctX7_at B fu c2 x5 s10) rfl rfl ⟨rfl, rfl, by decide, by decide⟩ (Nat.le_of_ble_eq_true rfl) (fun x9 s11 => ?_)
      refine s_aload_n 0 dX7_takesRead_98 rfl rfl ?_
      refine s_getr (n := 16) (k' := 345) dX7_takesRead_99 ly7 fl_X7_65 kd_328 rfl rfl rfl ?_
      refine s_iload_n 1 dX7_takesRead_102 rfl rfl ?_
      refine s_iload_n 3 dX7_takesRead_103 rfl rfl ?_
      refine s_Si (rest := [rv B 345, iv x9, rv B 332]) dX7_takesRead_104 lk_X7_165 meX7_at (ctX7_at B fu c1 x5 s11) rfl rfl ⟨rfl, rfl, by decide, by decide⟩ (Nat.le_of_ble_eq_true rfl) (fun x10 s12 => ?_)
      refine s_iald 96 dX7_takesRead_107 kd_345 (by decide) (fun x11 => ?_)
      refine s_iast 96 dX7_takesRead_108 kd_332 (by decide) (fun s13 => ?_)
      refine s_aload_n 0 dX7_takesRead_109 rfl rfl ?_
      refine s_getr (n := 4) (k' := 333) dX7_takesRead_110 ly7 fl_X7_22 kd_328 rfl rfl rfl ?_
      refine s_iload_n 2 dX7_takesRead_113 rfl rfl ?_
      refine s_iload_n 3 dX7_takesRead_114 rfl rfl ?_
      refine s_Si (rest := [rv B 333]) dX7_takesRead_115 lk_X7_165 meX7_at (ctX7_at B fu c2 x5 s13) rfl rfl ⟨rfl, rfl, by decide, by decide⟩ (Nat.le_of_ble_eq_true rfl) (fun x12 s14 => ?_)
      refine s_lconst (x := 0) dX7_takesRead_118 (by decide) ?_
      refine s_last 96 dX7_takesRead_119 kd_333 (by decide) (fun s15 => ?_)
      refine s_aload_n 0 dX7_takesRead_120 rfl rfl ?_
      refine s_getr (n := 5) (k' := 334) dX7_takesRead_121 ly7 fl_X7_26 kd_328 rfl rfl rfl ?_
      refine s_iload_n 2 dX7_takesRead_124 rfl rfl ?_
      refine s_iload_n 3 dX7_takesRead_125 rfl rfl ?_
      refine s_Si (rest := [rv B 334]) dX7_takesRead_126 lk_X7_165 meX7_at (ctX7_at B fu c2 x5 s15) rfl rfl ⟨rfl, rfl, by decide, by decide⟩ (Nat.le_of_ble_eq_true rfl) (fun x13 s16 => ?_)
      refine s_lconst (x := 0) dX7_takesRead_129 (by decide) ?_
      refine s_last 96 dX7_takesRead_130 kd_334 (by decide) (fun s17 => ?_)
      refine s_iinc (lv' := [(3, iv (x5 + 1)), (0, rv B 328), (1, iv c1), (2, iv c2)]) 3 dX7_takesRead_131 rfl (by decide) rfl ?_
      refine s_goto (tgt := 63) dX7_takesRead_134 (by decide) ?_
      exact s_sub [1, 2, 3, 0] rfl (ih (x5 + 1) s17)
set_option maxHeartbeats 4000000 in
set_option maxRecDepth 100000 in
theorem fX7_takesRead_L2_s {B fu : Nat} {X : Ctx} (hX : CxV B X) (k153 : Mem → PR) (hk153 : ∀ (s23 : Mem), SX7_takesRead B X (k153 s23) s23 153 [] []) : ∀ (n : Nat) (x1 : Int) (s22 : Mem), SX7_takesRead B X (fX7_takesRead_L2 fu k153 n x1 s22) s22 2 [(0, rv B 328), (1, iv x1)] [] := by
  intro n
  induction n with
  | zero => intro _ _; exact s_none
  | succ n ih =>
    intro x1 s1
    rw [fX7_takesRead_L2]
    refine s_iload_n 1 dX7_takesRead_2 rfl rfl ?_
    refine s_aload_n 0 dX7_takesRead_3 rfl rfl ?_
    refine s_geti dX7_takesRead_4 ly7 fl_X7_147 kd_328 rfl ?_
    refine s_icmp_ge (tgt := 153) dX7_takesRead_7 (by decide) ?_ ?_
    · exact s_sub [] rfl (hk153 s1)
    · refine s_aload_n 0 dX7_takesRead_10 rfl rfl ?_
      refine s_geti dX7_takesRead_11 ly7 fl_X7_129 kd_328 rfl ?_
      refine s_lti (fun x2 => ?_)
      refine s_istore_n (lv' := [(2, iv x2), (0, rv B 328), (1, iv x1)]) dX7_takesRead_14 rfl (by decide) rfl ?_
      refine s_aload_n 1 dX7_takesRead_15 rfl rfl ?_
      refine s_getr (n := 0) (k' := 329) dX7_takesRead_16 ly7 fl_X7_9 kd_328 rfl rfl rfl ?_
      refine s_iload_n 0 dX7_takesRead_19 rfl rfl ?_
      refine s_aload_n 1 dX7_takesRead_20 rfl rfl ?_
      refine s_getr (n := 13) (k' := 342) dX7_takesRead_21 ly7 fl_X7_56 kd_328 rfl rfl rfl ?_
      refine s_iload_n 2 dX7_takesRead_24 rfl rfl ?_
      refine s_iald 12 dX7_takesRead_25 kd_342 (by decide) (fun x3 => ?_)
      refine s_iast 12 dX7_takesRead_26 kd_329 (by decide) (fun s2 => ?_)
      refine s_aload_n 1 dX7_takesRead_27 rfl rfl ?_
      refine s_getr (n := 1) (k' := 330) dX7_takesRead_28 ly7 fl_X7_13 kd_328 rfl rfl rfl ?_
      refine s_iload_n 0 dX7_takesRead_31 rfl rfl ?_
      refine s_aload_n 1 dX7_takesRead_32 rfl rfl ?_
      refine s_getr (n := 14) (k' := 343) dX7_takesRead_33 ly7 fl_X7_59 kd_328 rfl rfl rfl ?_
      refine s_iload_n 2 dX7_takesRead_36 rfl rfl ?_
      refine s_iald 12 dX7_takesRead_37 kd_343 (by decide) (fun x4 => ?_)
      refine s_iast 12 dX7_takesRead_38 kd_330 (by decide) (fun s3 => ?_)
      refine s_aload_n 1 dX7_takesRead_39 rfl rfl ?_
      refine s_getr (n := 6) (k' := 335) dX7_takesRead_40 ly7 fl_X7_29 kd_328 rfl rfl rfl ?_
      refine s_iload_n 0 dX7_takesRead_43 rfl rfl ?_
      refine s_bipush dX7_takesRead_44 (by decide) ?_
      refine s_iast 12 dX7_takesRead_46 kd_335 (by decide) (fun s4 => ?_)
      refine s_aload_n 1 dX7_takesRead_47 rfl rfl ?_
      refine s_getr (n := 7) (k' := 336) dX7_takesRead_48 ly7 fl_X7_32 kd_328 rfl rfl rfl ?_
      refine s_iload_n 0 dX7_takesRead_51 rfl rfl ?_
      refine s_iconst dX7_takesRead_52 ?_
      refine s_iast 12 dX7_takesRead_53 kd_336 (by decide) (fun s5 => ?_)
      refine s_aload_n 1 dX7_takesRead_54 rfl rfl ?_
      refine s_getr (n := 8) (k' := 337) dX7_takesRead_55 ly7 fl_X7_35 kd_328 rfl rfl rfl ?_
      refine s_iload_n 0 dX7_takesRead_58 rfl rfl ?_
      refine s_iconst dX7_takesRead_59 ?_
      refine s_zast 12 dX7_takesRead_60 kd_337 (by decide) (fun s6 => ?_)
      refine s_iconst dX7_takesRead_61 ?_
      refine s_istore_n (lv' := [(3, iv 0), (2, iv x2), (0, rv B 328), (1, iv x1)]) dX7_takesRead_62 rfl (by decide) rfl ?_
      refine s_sub [2, 3, 1, 0] (lv' := [(0, rv B 328), (1, iv x1), (2, iv x2), (3, iv 0)]) rfl ?_
      refine fX7_takesRead_L63_s hX x1 x2 _ ?_ fu 0 s6
      intro s20
      refine s_aload_n 0 dX7_takesRead_137 rfl rfl ?_
      refine s_dup dX7_takesRead_138 rfl ?_
      refine s_geti dX7_takesRead_139 ly7 fl_X7_129 kd_328 rfl ?_
      refine s_iconst dX7_takesRead_142 ?_
      refine s_iadd dX7_takesRead_143 ?_
      refine s_puti dX7_takesRead_144 ly7 ty7 fl_X7_129 kd_328 rfl po7_9 ⟨rfl, rfl, by decide⟩ (fun s21 => ?_)
      refine s_iinc (lv' := [(1, iv (x1 + 1)), (0, rv B 328)]) 1 dX7_takesRead_147 rfl (by decide) rfl ?_
      refine s_goto (tgt := 2) dX7_takesRead_150 (by decide) ?_
      exact s_sub [1, 0] rfl (ih (x1 + 1) s21)
set_option maxHeartbeats 4000000 in
set_option maxRecDepth 100000 in
theorem ctX7_takesRead (B fu : Nat) (σ : Mem) : CtV yX7_takesRead cX7_takesRead 4 none rmX7_takesRead B [rv B 328] σ (fX7_takesRead fu σ) := by
  refine ctV_intro (own := RX7) (lv := [(0, rv B 328)]) (by decide +kernel) rfl (Nat.le_of_ble_eq_true rfl) rfl (fun X hX => ?_)
  unfold fX7_takesRead
  refine s_iconst dX7_takesRead_0 ?_
  refine s_istore_n (lv' := [(1, iv 0), (0, rv B 328)]) dX7_takesRead_1 rfl (by decide) rfl ?_
  refine s_sub [1, 0] (lv' := [(0, rv B 328), (1, iv 0)]) rfl ?_
  refine fX7_takesRead_L2_s hX _ ?_ fu 0 σ
  intro s24
  exact s_vret hX dX7_takesRead_153
abbrev rmX7_net : Room := { frames := 4, cells := 0, slots := 0, locals := 92 }
abbrev SX7_net (B : Nat) (X : Ctx) := Sim cX7_net RX7 2 rmX7_net B X
set_option maxHeartbeats 4000000 in
set_option maxRecDepth 100000 in
theorem fX7_net_L21_s {B fu : Nat} {X : Ctx} (hX : CxI .int B X) (k84 : Mem → PR) (hk84 : ∀ (s12 : Mem), SX7_net B X (k84 s12) s12 84 [(0, rv B 328)] []) : ∀ (n : Nat) (s11 : Mem), SX7_net B X (fX7_net_L21 fu k84 n s11) s11 21 [(0, rv B 328)] [] := by
  intro n
  induction n with
  | zero => intro _; exact s_none
  | succ n ih =>
    intro s4
    rw [fX7_net_L21]
    refine s_aload_n 0 dX7_net_21 rfl rfl ?_
    refine s_geti dX7_net_22 ly7 fl_X7_144 kd_328 rfl ?_
    refine s_iconst dX7_net_25 ?_
    refine s_icmp_ne (tgt := 84) dX7_net_26 (by decide) ?_ ?_
    · exact hk84 s4
    · refine s_aload_n 0 dX7_net_29 rfl rfl ?_
      refine s_Vi (rest := []) dX7_net_30 lk_X7_150 meX7_sees (ctX7_sees B fu s4) kd_328 ⟨rfl, by decide⟩ rfl rfl ⟨rfl, rfl, by decide, by decide⟩ (Nat.le_of_ble_eq_true rfl) (fun x1 s5 => ?_)
      refine s_bipush dX7_net_33 (by decide) ?_
      refine s_icmp_ne (tgt := 84) dX7_net_35 (by decide) ?_ ?_
      · exact hk84 s5
      · refine s_aload_n 0 dX7_net_38 rfl rfl ?_
        refine s_dup dX7_net_39 rfl ?_
        refine s_geti dX7_net_40 ly7 fl_X7_141 kd_328 rfl ?_
        refine s_iconst dX7_net_43 ?_
        refine s_iadd dX7_net_44 ?_
        refine s_puti dX7_net_45 ly7 ty7 fl_X7_141 kd_328 rfl po7_27 ⟨rfl, rfl, by decide⟩ (fun s6 => ?_)
        refine s_aload_n 0 dX7_net_48 rfl rfl ?_
        refine s_Vi (rest := []) dX7_net_49 lk_X7_150 meX7_sees (ctX7_sees B fu s6) kd_328 ⟨rfl, by decide⟩ rfl rfl ⟨rfl, rfl, by decide, by decide⟩ (Nat.le_of_ble_eq_true rfl) (fun x2 s7 => ?_)
        refine s_i2l dX7_net_52 ?_
        refine s_ldc2 (x := 48) dX7_net_53 cl_X7_154 (by decide) ?_
        refine s_ldc2 (x := 57) dX7_net_56 cl_X7_156 (by decide) ?_
        refine s_Si (rest := []) dX7_net_59 lk_X7_125 meX7_in (ctX7_in B fu (w32 x2) 48 57 s7) rfl rfl ⟨rfl, rfl, by decide, by decide⟩ (Nat.le_of_ble_eq_true rfl) (fun x3 s8 => ?_)
        refine s_if_eq (tgt := 73) dX7_net_62 (by decide) ?_ ?_
        · refine s_aload_n 0 dX7_net_73 rfl rfl ?_
          refine s_aload_n 0 dX7_net_74 rfl rfl ?_
          refine s_geti dX7_net_75 ly7 fl_X7_141 kd_328 rfl ?_
          refine s_Vv (rest := []) dX7_net_78 lk_X7_158 meX7_fault (ctX7_fault B fu (s8 328 27) s8) kd_328 ⟨rfl, by decide⟩ rfl rfl ⟨rfl, rfl, by decide, by decide⟩ (Nat.le_of_ble_eq_true rfl) (fun _ s9 => ?_)
          refine s_goto (tgt := 21) dX7_net_81 (by decide) ?_
          exact ih s9
        · refine s_aload_n 0 dX7_net_65 rfl rfl ?_
          refine s_iconst dX7_net_66 ?_
          refine s_Vv (rest := []) dX7_net_67 lk_X7_186 meX7_readLine (ctX7_readLine B fu 0 s8) kd_328 ⟨rfl, by decide⟩ rfl rfl ⟨rfl, rfl, by decide, by decide⟩ (Nat.le_of_ble_eq_true rfl) (fun _ s10 => ?_)
          refine s_goto (tgt := 21) dX7_net_70 (by decide) ?_
          exact ih s10
set_option maxHeartbeats 4000000 in
set_option maxRecDepth 100000 in
theorem fX7_net_L143_s {B fu : Nat} {X : Ctx} (hX : CxI .int B X) (k162 : Mem → PR) (hk162 : ∀ (s21 : Mem), SX7_net B X (k162 s21) s21 162 [(0, rv B 328)] []) : ∀ (n : Nat) (x4 : Int) (s20 : Mem), SX7_net B X (fX7_net_L143 fu k162 n x4 s20) s20 143 [(0, rv B 328), (1, iv x4)] [] := by
  intro n
  induction n with
  | zero => intro _ _; exact s_none
  | succ n ih =>
    intro x4 s18
    rw [fX7_net_L143]
    refine s_iload_n 1 dX7_net_143 rfl rfl ?_
    refine s_bipush dX7_net_144 (by decide) ?_
    refine s_icmp_ge (tgt := 162) dX7_net_146 (by decide) ?_ ?_
    · exact s_sub [0] rfl (hk162 s18)
    · refine s_aload_n 0 dX7_net_149 rfl rfl ?_
      refine s_getr (n := 10) (k' := 339) dX7_net_150 ly7 fl_X7_46 kd_328 rfl rfl rfl ?_
      refine s_iload_n 1 dX7_net_153 rfl rfl ?_
      refine s_iconst dX7_net_154 ?_
      refine s_zast 10 dX7_net_155 kd_339 (by decide) (fun s19 => ?_)
      refine s_iinc (lv' := [(1, iv (x4 + 1)), (0, rv B 328)]) 1 dX7_net_156 rfl (by decide) rfl ?_
      refine s_goto (tgt := 143) dX7_net_159 (by decide) ?_
      exact s_sub [1, 0] rfl (ih (x4 + 1) s19)
set_option maxHeartbeats 4000000 in
set_option maxRecDepth 100000 in
theorem ctX7_net (B fu : Nat) (σ : Mem) : CtI yX7_net cX7_net 2 (some .int) rmX7_net B [rv B 328] σ (fX7_net fu σ) := by
  refine ctI_intro (own := RX7) (lv := [(0, rv B 328)]) (by decide +kernel) rfl (Nat.le_of_ble_eq_true rfl) rfl (fun X hX => ?_)
  unfold fX7_net
  refine s_aload_n 0 dX7_net_0 rfl rfl ?_
  refine s_iconst dX7_net_1 ?_
  refine s_puti dX7_net_2 ly7 ty7 fl_X7_116 kd_328 rfl po7_20 ⟨rfl, rfl, by decide⟩ (fun s1 => ?_)
  refine s_aload_n 0 dX7_net_5 rfl rfl ?_
  refine s_Vv (rest := []) dX7_net_6 lk_X7_183 meX7_begin (ctX7_begin B fu s1) kd_328 ⟨rfl, by decide⟩ rfl rfl ⟨rfl, rfl, by decide, by decide⟩ (Nat.le_of_ble_eq_true rfl) (fun _ s2 => ?_)
  refine s_aload_n 0 dX7_net_9 rfl rfl ?_
  refine s_geti dX7_net_10 ly7 fl_X7_138 kd_328 rfl ?_
  refine s_jn (fun (j1 : Mem → PR) => ∀ (s26 : Mem), SX7_net B X (j1 s26) s26 21 [(0, rv B 328)] []) ?_ (fun j1 hj1 => ?_)
  · intro s3
    refine fX7_net_L21_s hX _ ?_ fu s3
    intro s13
    refine s_aload_n 0 dX7_net_84 rfl rfl ?_
    refine s_geti dX7_net_85 ly7 fl_X7_144 kd_328 rfl ?_
    refine s_iconst dX7_net_88 ?_
    refine s_jn (fun (j2 : Mem → PR) => ∀ (s24 : Mem), SX7_net B X (j2 s24) s24 111 [(0, rv B 328)] []) ?_ (fun j2 hj2 => ?_)
    · intro s14
      refine s_aload_n 0 dX7_net_111 rfl rfl ?_
      refine s_geti dX7_net_112 ly7 fl_X7_144 kd_328 rfl ?_
      refine s_iconst dX7_net_115 ?_
      refine s_icmp_eq (tgt := 127) dX7_net_116 (by decide) ?_ ?_
      · refine s_aload_n 0 dX7_net_127 rfl rfl ?_
        refine s_iconst dX7_net_128 ?_
        refine s_puti dX7_net_129 ly7 ty7 fl_X7_129 kd_328 rfl po7_9 ⟨rfl, rfl, by decide⟩ (fun s15 => ?_)
        refine s_aload_n 0 dX7_net_132 rfl rfl ?_
        refine s_Vv (rest := []) dX7_net_133 lk_X7_189 meX7_takesRead (ctX7_takesRead B fu s15) kd_328 ⟨rfl, by decide⟩ rfl rfl ⟨rfl, rfl, by decide, by decide⟩ (Nat.le_of_ble_eq_true rfl) (fun _ s16 => ?_)
        refine s_aload_n 0 dX7_net_136 rfl rfl ?_
        refine s_iconst dX7_net_137 ?_
        refine s_puti dX7_net_138 ly7 ty7 fl_X7_192 kd_328 rfl po7_13 ⟨rfl, rfl, by decide⟩ (fun s17 => ?_)
        refine s_iconst dX7_net_141 ?_
        refine s_istore_n (lv' := [(1, iv 0), (0, rv B 328)]) dX7_net_142 rfl (by decide) rfl ?_
        refine s_sub [1, 0] (lv' := [(0, rv B 328), (1, iv 0)]) rfl ?_
        refine fX7_net_L143_s hX _ ?_ fu 0 s17
        intro s22
        refine s_aload_n 0 dX7_net_162 rfl rfl ?_
        refine s_geti dX7_net_163 ly7 fl_X7_129 kd_328 rfl ?_
        exact s_iret hX dX7_net_166
      · refine s_bipush dX7_net_119 (by decide) ?_
        refine s_aload_n 0 dX7_net_121 rfl rfl ?_
        refine s_geti dX7_net_122 ly7 fl_X7_144 kd_328 rfl ?_
        refine s_isub dX7_net_125 ?_
        exact s_iret hX dX7_net_126
    · refine s_icmp_ne (tgt := 111) dX7_net_89 (by decide) ?_ ?_
      · exact hj2 s13
      · refine s_aload_n 0 dX7_net_92 rfl rfl ?_
        refine s_geti dX7_net_93 ly7 fl_X7_141 kd_328 rfl ?_
        refine s_aload_n 0 dX7_net_96 rfl rfl ?_
        refine s_geti dX7_net_97 ly7 fl_X7_138 kd_328 rfl ?_
        refine s_icmp_ge (tgt := 111) dX7_net_100 (by decide) ?_ ?_
        · exact hj2 s13
        · refine s_aload_n 0 dX7_net_103 rfl rfl ?_
          refine s_aload_n 0 dX7_net_104 rfl rfl ?_
          refine s_geti dX7_net_105 ly7 fl_X7_141 kd_328 rfl ?_
          refine s_Vv (rest := []) dX7_net_108 lk_X7_158 meX7_fault (ctX7_fault B fu (s13 328 27) s13) kd_328 ⟨rfl, by decide⟩ rfl rfl ⟨rfl, rfl, by decide, by decide⟩ (Nat.le_of_ble_eq_true rfl) (fun _ s23 => ?_)
          exact hj2 s23
  · refine s_if_le (tgt := 21) dX7_net_13 (by decide) ?_ ?_
    · exact hj1 s2
    · refine s_aload_n 0 dX7_net_16 rfl rfl ?_
      refine s_iconst dX7_net_17 ?_
      refine s_Vv (rest := []) dX7_net_18 lk_X7_186 meX7_readLine (ctX7_readLine B fu 0 s2) kd_328 ⟨rfl, by decide⟩ rfl rfl ⟨rfl, rfl, by decide, by decide⟩ (Nat.le_of_ble_eq_true rfl) (fun _ s25 => ?_)
      exact hj1 s25
