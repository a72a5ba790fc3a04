abbrev rmX6_chosen : Room := { frames := 4, cells := 0, slots := 0, locals := 94 }
abbrev SX6_chosen (B : Nat) (X : Ctx) := Sim cX6_chosen RX6 4 rmX6_chosen B X
set_option maxHeartbeats 4000000 in
set_option maxRecDepth 100000 in
theorem fX6_chosen_L35_s {B fu : Nat} {X : Ctx} (hX : CxI .int B X) (p2 : Nat) (hp2 : kd p2 = 4) (k63 : Mem → PR) (hk63 : ∀ (s7 : Mem), SX6_chosen B X (k63 s7) s7 63 [(2, rv B p2)] []) : ∀ (n : Nat) (x2 : Int) (s6 : Mem), SX6_chosen B X (fX6_chosen_L35 fu p2 k63 n x2 s6) s6 35 [(0, rv B 0), (2, rv B p2), (3, iv x2)] [] := by
  intro n
  induction n with
  | zero => intro _ _; exact s_none
  | succ n ih =>
    intro x2 s4
    rw [fX6_chosen_L35]
    refine s_iload_n 2 dX6_chosen_35 rfl rfl ?_
    refine s_aload_n 1 dX6_chosen_36 rfl rfl ?_
    refine s_geti dX6_chosen_37 ly4 fl_X6_164 hp2 rfl ?_
    refine s_icmp_ge (tgt := 63) dX6_chosen_40 (by decide) ?_ ?_
    · exact s_sub [1] rfl (hk63 s4)
    · refine s_aload_n 0 dX6_chosen_43 rfl rfl ?_
      refine s_getr (n := 322) (k' := 323) dX6_chosen_44 ly6 fl_X6_26 kd_0 rfl rfl rfl ?_
      refine s_aload_n 1 dX6_chosen_47 rfl rfl ?_
      refine s_getr (n := 0) (k' := p2 + 1) dX6_chosen_48 ly4 fl_X6_181 hp2 rfl rfl rfl ?_
      refine s_iload_n 2 dX6_chosen_51 rfl rfl ?_
      refine s_iald 12 dX6_chosen_52 (kdS1 hp2) (by decide) (fun x3 => ?_)
      refine s_i2l dX6_chosen_53 ?_
      refine s_Vv (rest := []) dX6_chosen_54 lk_X6_146 meX3_put (ctX3_put B fu (w32 x3) s4) kd_323 ⟨rfl, by decide⟩ rfl rfl ⟨rfl, rfl, by decide, by decide⟩ (Nat.le_of_ble_eq_true rfl) (fun _ s5 => ?_)
      refine s_iinc (lv' := [(3, iv (x2 + 1)), (0, rv B 0), (2, rv B p2)]) 2 dX6_chosen_57 rfl (by decide) rfl ?_
      refine s_goto (tgt := 35) dX6_chosen_60 (by decide) ?_
      exact s_sub [1, 2, 0] rfl (ih (x2 + 1) s5)
set_option maxHeartbeats 4000000 in
set_option maxRecDepth 100000 in
theorem ctX6_chosen (B fu : Nat) (a0 : Int) (σ : Mem) : CtI yX6_chosen cX6_chosen 4 (some .int) rmX6_chosen B [rv B 0, iv a0] σ (fX6_chosen fu a0 σ) := by
  refine ctI_intro (own := RX6) (lv := [(0, rv B 0), (1, iv a0)]) (by decide +kernel) rfl (Nat.le_of_ble_eq_true rfl) rfl (fun X hX => ?_)
  unfold fX6_chosen
  refine s_iload_n 1 dX6_chosen_0 rfl rfl ?_
  refine s_Si (rest := []) dX6_chosen_1 lk_X6_75 meX6_isStop (ctX6_isStop B fu a0 σ) rfl rfl ⟨rfl, rfl, by decide, by decide⟩ (Nat.le_of_ble_eq_true rfl) (fun x1 s1 => ?_)
  refine s_if_ne (tgt := 9) dX6_chosen_4 (by decide) ?_ ?_
  · refine s_aload_n 0 dX6_chosen_9 rfl rfl ?_
    refine s_getr (n := 135) (k' := 136) dX6_chosen_10 ly6 fl_X6_19 kd_0 rfl rfl rfl ?_
    refine s_Vv (rest := []) dX6_chosen_13 lk_X6_155 meX2_findCosts (ctX2_findCosts B fu s1) kd_136 ⟨rfl, by decide⟩ rfl rfl ⟨rfl, rfl, by decide, by decide⟩ (Nat.le_of_ble_eq_true rfl) (fun _ s2 => ?_)
    refine s_aload_n 0 dX6_chosen_16 rfl rfl ?_
    refine s_getr (n := 135) (k' := 136) dX6_chosen_17 ly6 fl_X6_19 kd_0 rfl rfl rfl ?_
    refine s_getr (n := 133) (k' := 270) dX6_chosen_20 ly2 fl_X6_81 kd_136 rfl rfl rfl ?_
    refine s_iload_n 1 dX6_chosen_23 rfl rfl ?_
    refine s_aals dX6_chosen_24 (fun p1 hp1 => ?_)
    refine s_astore_n (lv' := [(2, rv B p1), (0, rv B 0), (1, iv a0)]) dX6_chosen_25 rfl (by decide) rfl ?_
    refine s_aload_n 1 dX6_chosen_26 rfl rfl ?_
    refine s_getr (n := 322) (k' := 323) dX6_chosen_27 ly6 fl_X6_26 kd_0 rfl rfl rfl ?_
    refine s_Vv (rest := []) dX6_chosen_30 lk_X6_136 meX3_empty (ctX3_empty B fu s2) kd_323 ⟨rfl, by decide⟩ rfl rfl ⟨rfl, rfl, by decide, by decide⟩ (Nat.le_of_ble_eq_true rfl) (fun _ s3 => ?_)
    refine s_iconst dX6_chosen_33 ?_
    refine s_istore_n (lv' := [(3, iv 0), (2, rv B p1), (0, rv B 0), (1, iv a0)]) dX6_chosen_34 rfl (by decide) rfl ?_
    refine s_sub [2, 1, 0] (lv' := [(0, rv B 0), (2, rv B p1), (3, iv 0)]) rfl ?_
    refine fX6_chosen_L35_s hX p1 hp1 _ ?_ fu 0 s3
    intro s8
    refine s_aload_n 0 dX6_chosen_63 rfl rfl ?_
    refine s_Vi (rest := []) dX6_chosen_64 lk_X6_183 meX4_takenLines (ctX4_takenLines B fu p1 hp1 s8) hp1 ⟨rfl, by decide⟩ rfl rfl ⟨rfl, rfl, by decide, by decide⟩ (Nat.le_of_ble_eq_true rfl) (fun x4 s9 => ?_)
    exact s_iret hX dX6_chosen_67
  · refine s_iconst dX6_chosen_7 ?_
    exact s_iret hX dX6_chosen_8
abbrev rmX6_boarding : Room := { frames := 4, cells := 0, slots := 0, locals := 94 }
abbrev SX6_boarding (B : Nat) (X : Ctx) := Sim cX6_boarding RX6 4 rmX6_boarding B X
set_option maxHeartbeats 4000000 in
set_option maxRecDepth 100000 in
theorem ctX6_boarding (B fu : Nat) (a0 : Int) (a1 : Int) (σ : Mem) : CtI yX6_boarding cX6_boarding 4 (some .int) rmX6_boarding B [rv B 0, iv a0, iv a1] σ (fX6_boarding fu a0 a1 σ) := by
  refine ctI_intro (own := RX6) (lv := [(0, rv B 0), (1, iv a0), (2, iv a1)]) (by decide +kernel) rfl (Nat.le_of_ble_eq_true rfl) rfl (fun X hX => ?_)
  unfold fX6_boarding
  refine s_aload_n 0 dX6_boarding_0 rfl rfl ?_
  refine s_getr (n := 135) (k' := 136) dX6_boarding_1 ly6 fl_X6_19 kd_0 rfl rfl rfl ?_
  refine s_iload_n 1 dX6_boarding_4 rfl rfl ?_
  refine s_iload_n 2 dX6_boarding_5 rfl rfl ?_
  refine s_Vi (rest := []) dX6_boarding_6 lk_X6_186 meX2_hasStep (ctX2_hasStep B fu a0 a1 σ) kd_136 ⟨rfl, by decide⟩ rfl rfl ⟨rfl, rfl, by decide, by decide⟩ (Nat.le_of_ble_eq_true rfl) (fun x1 s1 => ?_)
  refine s_if_ne (tgt := 14) dX6_boarding_9 (by decide) ?_ ?_
  · refine s_aload_n 0 dX6_boarding_14 rfl rfl ?_
    refine s_getr (n := 135) (k' := 136) dX6_boarding_15 ly6 fl_X6_19 kd_0 rfl rfl rfl ?_
    refine s_Vv (rest := []) dX6_boarding_18 lk_X6_155 meX2_findCosts (ctX2_findCosts B fu s1) kd_136 ⟨rfl, by decide⟩ rfl rfl ⟨rfl, rfl, by decide, by decide⟩ (Nat.le_of_ble_eq_true rfl) (fun _ s2 => ?_)
    refine s_aload_n 0 dX6_boarding_21 rfl rfl ?_
    refine s_getr (n := 135) (k' := 136) dX6_boarding_22 ly6 fl_X6_19 kd_0 rfl rfl rfl ?_
    refine s_getd dX6_boarding_25 ly2 fl_X6_90 kd_136 rfl rfl (fun p1 hp1 => ?_)
    refine s_iload_n 1 dX6_boarding_28 rfl rfl ?_
    refine s_aald dX6_boarding_29 hp1 (fun p2 hp2 => ?_)
    refine s_astore_n (lv' := [(3, rv B p2), (0, rv B 0), (1, iv a0), (2, iv a1)]) dX6_boarding_30 rfl (by decide) rfl ?_
    refine s_aload_n 0 dX6_boarding_31 rfl rfl ?_
    refine s_getr (n := 5) (k' := p2 + 6) dX6_boarding_32 ly1 fl_X6_189 hp2 rfl rfl rfl ?_
    refine s_iload_n 3 dX6_boarding_35 rfl rfl ?_
    refine s_iald 8 dX6_boarding_36 (kdL6 hp2) (by decide) (fun x2 => ?_)
    refine s_iconst dX6_boarding_37 ?_
    refine s_icmp_ne (tgt := 44) dX6_boarding_38 (by decide) ?_ ?_
    · refine s_aload_n 1 dX6_boarding_44 rfl rfl ?_
      refine s_getr (n := 322) (k' := 323) dX6_boarding_45 ly6 fl_X6_26 kd_0 rfl rfl rfl ?_
      refine s_aload_n 1 dX6_boarding_48 rfl rfl ?_
      refine s_getr (n := 135) (k' := 136) dX6_boarding_49 ly6 fl_X6_19 kd_0 rfl rfl rfl ?_
      refine s_iload_n 2 dX6_boarding_52 rfl rfl ?_
      refine s_iload_n 3 dX6_boarding_53 rfl rfl ?_
      refine s_Vi (rest := [rv B 323]) dX6_boarding_54 lk_X6_192 meX2_isTaken (ctX2_isTaken B fu a0 a1 s2) kd_136 ⟨rfl, by decide⟩ rfl rfl ⟨rfl, rfl, by decide, by decide⟩ (Nat.le_of_ble_eq_true rfl) (fun x3 s3 => ?_)
      refine s_Si (rest := [rv B 323]) dX6_boarding_57 lk_X6_128 meX6_bit (ctX6_bit B fu x3 s3) rfl rfl ⟨rfl, rfl, by decide, by decide⟩ (Nat.le_of_ble_eq_true rfl) (fun x4 s4 => ?_)
      refine s_i2l dX6_boarding_60 ?_
      refine s_Vv (rest := []) dX6_boarding_61 lk_X6_175 meX3_putOne (ctX3_putOne B fu (w32 x4) s4) kd_323 ⟨rfl, by decide⟩ rfl rfl ⟨rfl, rfl, by decide, by decide⟩ (Nat.le_of_ble_eq_true rfl) (fun _ s5 => ?_)
      refine s_aload_n 0 dX6_boarding_64 rfl rfl ?_
      refine s_getr (n := 5) (k' := p2 + 6) dX6_boarding_65 ly1 fl_X6_189 hp2 rfl rfl rfl ?_
      refine s_iload_n 3 dX6_boarding_68 rfl rfl ?_
      refine s_iald 8 dX6_boarding_69 (kdL6 hp2) (by decide) (fun x5 => ?_)
      exact s_iret hX dX6_boarding_70
    · refine s_bipush dX6_boarding_41 (by decide) ?_
      exact s_iret hX dX6_boarding_43
  · refine s_iconst dX6_boarding_12 ?_
    exact s_iret hX dX6_boarding_13
abbrev rmX6_aboard : Room := { frames := 4, cells := 0, slots := 0, locals := 94 }
abbrev SX6_aboard (B : Nat) (X : Ctx) := Sim cX6_aboard RX6 4 rmX6_aboard B X
set_option maxHeartbeats 4000000 in
set_option maxRecDepth 100000 in
theorem ctX6_aboard (B fu : Nat) (a0 : Int) (a1 : Int) (σ : Mem) : CtI yX6_aboard cX6_aboard 4 (some .int) rmX6_aboard B [rv B 0, iv a0, iv a1] σ (fX6_aboard fu a0 a1 σ) := by
  refine ctI_intro (own := RX6) (lv := [(0, rv B 0), (1, iv a0), (2, iv a1)]) (by decide +kernel) rfl (Nat.le_of_ble_eq_true rfl) rfl (fun X hX => ?_)
  unfold fX6_aboard
  refine s_aload_n 0 dX6_aboard_0 rfl rfl ?_
  refine s_getr (n := 135) (k' := 136) dX6_aboard_1 ly6 fl_X6_19 kd_0 rfl rfl rfl ?_
  refine s_iload_n 1 dX6_aboard_4 rfl rfl ?_
  refine s_iload_n 2 dX6_aboard_5 rfl rfl ?_
  refine s_Vi (rest := []) dX6_aboard_6 lk_X6_132 meX2_hasHalt (ctX2_hasHalt B fu a0 a1 σ) kd_136 ⟨rfl, by decide⟩ rfl rfl ⟨rfl, rfl, by decide, by decide⟩ (Nat.le_of_ble_eq_true rfl) (fun x1 s1 => ?_)
  refine s_if_ne (tgt := 14) dX6_aboard_9 (by decide) ?_ ?_
  · refine s_aload_n 0 dX6_aboard_14 rfl rfl ?_
    refine s_getr (n := 135) (k' := 136) dX6_aboard_15 ly6 fl_X6_19 kd_0 rfl rfl rfl ?_
    refine s_Vv (rest := []) dX6_aboard_18 lk_X6_155 meX2_findCosts (ctX2_findCosts B fu s1) kd_136 ⟨rfl, by decide⟩ rfl rfl ⟨rfl, rfl, by decide, by decide⟩ (Nat.le_of_ble_eq_true rfl) (fun _ s2 => ?_)
    refine s_aload_n 0 dX6_aboard_21 rfl rfl ?_
    refine s_getr (n := 135) (k' := 136) dX6_aboard_22 ly6 fl_X6_19 kd_0 rfl rfl rfl ?_
    refine s_getd dX6_aboard_25 ly2 fl_X6_90 kd_136 rfl rfl (fun p1 hp1 => ?_)
    refine s_iload_n 1 dX6_aboard_28 rfl rfl ?_
    refine s_aald dX6_aboard_29 hp1 (fun p2 hp2 => ?_)
    refine s_astore_n (lv' := [(3, rv B p2), (0, rv B 0), (1, iv a0), (2, iv a1)]) dX6_aboard_30 rfl (by decide) rfl ?_
    refine s_aload_n 0 dX6_aboard_31 rfl rfl ?_
    refine s_getr (n := 4) (k' := p2 + 5) dX6_aboard_32 ly1 fl_X6_195 hp2 rfl rfl rfl ?_
    refine s_iload_n 3 dX6_aboard_35 rfl rfl ?_
    refine s_iald 8 dX6_aboard_36 (kdL5 hp2) (by decide) (fun x2 => ?_)
    refine s_iconst dX6_aboard_37 ?_
    refine s_icmp_ne (tgt := 44) dX6_aboard_38 (by decide) ?_ ?_
    · refine s_aload_n 1 dX6_aboard_44 rfl rfl ?_
      refine s_getr (n := 322) (k' := 323) dX6_aboard_45 ly6 fl_X6_26 kd_0 rfl rfl rfl ?_
      refine s_aload_n 0 dX6_aboard_48 rfl rfl ?_
      refine s_getr (n := 6) (k' := p2 + 7) dX6_aboard_49 ly1 fl_X6_198 hp2 rfl rfl rfl ?_
      refine s_iload_n 3 dX6_aboard_52 rfl rfl ?_
      refine s_zald 8 dX6_aboard_53 (kdL7 hp2) (by decide) (fun x3 => ?_)
      refine s_Si (rest := [rv B 323]) dX6_aboard_54 lk_X6_128 meX6_bit (ctX6_bit B fu x3 s2) rfl rfl ⟨rfl, rfl, by decide, by decide⟩ (Nat.le_of_ble_eq_true rfl) (fun x4 s3 => ?_)
      refine s_i2l dX6_aboard_57 ?_
      refine s_Vv (rest := []) dX6_aboard_58 lk_X6_175 meX3_putOne (ctX3_putOne B fu (w32 x4) s3) kd_323 ⟨rfl, by decide⟩ rfl rfl ⟨rfl, rfl, by decide, by decide⟩ (Nat.le_of_ble_eq_true rfl) (fun _ s4 => ?_)
      refine s_aload_n 0 dX6_aboard_61 rfl rfl ?_
      refine s_getr (n := 4) (k' := p2 + 5) dX6_aboard_62 ly1 fl_X6_195 hp2 rfl rfl rfl ?_
      refine s_iload_n 3 dX6_aboard_65 rfl rfl ?_
      refine s_iald 8 dX6_aboard_66 (kdL5 hp2) (by decide) (fun x5 => ?_)
      exact s_iret hX dX6_aboard_67
    · refine s_bipush dX6_aboard_41 (by decide) ?_
      exact s_iret hX dX6_aboard_43
  · refine s_iconst dX6_aboard_12 ?_
    exact s_iret hX dX6_aboard_13
abbrev rmX6_worst : Room := { frames := 4, cells := 0, slots := 0, locals := 94 }
abbrev SX6_worst (B : Nat) (X : Ctx) := Sim cX6_worst RX6 4 rmX6_worst B X
set_option maxHeartbeats 4000000 in
set_option maxRecDepth 100000 in
theorem fX6_worst_L13_s {B fu : Nat} {X : Ctx} (hX : CxI .int B X) (k67 : Int → Int → Mem → PR) (hk67 : ∀ (x4 : Int) (x5 : Int) (s6 : Mem), SX6_worst B X (k67 x4 x5 s6) s6 67 [(0, rv B 0), (1, iv x4), (2, iv x5)] []) : ∀ (n : Nat) (x1 : Int) (x2 : Int) (x3 : Int) (s5 : Mem), SX6_worst B X (fX6_worst_L13 fu k67 n x1 x2 x3 s5) s5 13 [(0, rv B 0), (1, iv x1), (2, iv x2), (3, iv x3)] [] := by
  intro n
  induction n with
  | zero => intro _ _ _ _; exact s_none
  | succ n ih =>
    intro x1 x2 x3 s2
    rw [fX6_worst_L13]
    refine s_iload_n 3 dX6_worst_13 rfl rfl ?_
    refine s_bipush dX6_worst_14 (by decide) ?_
    refine s_icmp_ge (tgt := 67) dX6_worst_16 (by decide) ?_ ?_
    · exact s_sub [0, 1, 2] rfl (hk67 x1 x2 s2)
    · refine s_iload_n 3 dX6_worst_19 rfl rfl ?_
      refine s_aload_n 0 dX6_worst_20 rfl rfl ?_
      refine s_getr (n := 135) (k' := 136) dX6_worst_21 ly6 fl_X6_19 kd_0 rfl rfl rfl ?_
      refine s_geti dX6_worst_24 ly2 fl_X6_78 kd_136 rfl ?_
      refine s_jn (fun (j1 : Int → Int → Mem → PR) => ∀ (x6 : Int) (x7 : Int) (s4 : Mem), SX6_worst B X (j1 x6 x7 s4) s4 61 [(0, rv B 0), (1, iv x6), (2, iv x7), (3, iv x3)] []) ?_ (fun j1 hj1 => ?_)
      · intro x6 x7 s3
        refine s_iinc (lv' := [(3, iv (x3 + 1)), (0, rv B 0), (1, iv x6), (2, iv x7)]) 3 dX6_worst_61 rfl (by decide) rfl ?_
        refine s_goto (tgt := 13) dX6_worst_64 (by decide) ?_
        exact s_sub [1, 2, 3, 0] rfl (ih x6 x7 (x3 + 1) s3)
      · refine s_icmp_eq (tgt := 61) dX6_worst_27 (by decide) ?_ ?_
        · exact hj1 x1 x2 s2
        · refine s_aload_n 0 dX6_worst_30 rfl rfl ?_
          refine s_getr (n := 135) (k' := 136) dX6_worst_31 ly6 fl_X6_19 kd_0 rfl rfl rfl ?_
          refine s_getr (n := 133) (k' := 270) dX6_worst_34 ly2 fl_X6_81 kd_136 rfl rfl rfl ?_
          refine s_iload_n 3 dX6_worst_37 rfl rfl ?_
          refine s_aals dX6_worst_38 (fun p1 hp1 => ?_)
          refine s_geti dX6_worst_39 ly4 fl_X6_158 hp1 rfl ?_
          refine s_iload_n 2 dX6_worst_42 rfl rfl ?_
          refine s_icmp_le (tgt := 61) dX6_worst_43 (by decide) ?_ ?_
          · exact hj1 x1 x2 s2
          · refine s_iload_n 3 dX6_worst_46 rfl rfl ?_
            refine s_istore_n (lv' := [(1, iv x3), (0, rv B 0), (2, iv x2), (3, iv x3)]) dX6_worst_47 rfl (by decide) rfl ?_
            refine s_aload_n 1 dX6_worst_48 rfl rfl ?_
            refine s_getr (n := 135) (k' := 136) dX6_worst_49 ly6 fl_X6_19 kd_0 rfl rfl rfl ?_
            refine s_getr (n := 133) (k' := 270) dX6_worst_52 ly2 fl_X6_81 kd_136 rfl rfl rfl ?_
            refine s_iload_n 3 dX6_worst_55 rfl rfl ?_
            refine s_aals dX6_worst_56 (fun p2 hp2 => ?_)
            refine s_geti dX6_worst_57 ly4 fl_X6_158 hp2 rfl ?_
            refine s_lti (fun x8 => ?_)
            refine s_istore_n (lv' := [(2, iv x8), (1, iv x3), (0, rv B 0), (3, iv x3)]) dX6_worst_60 rfl (by decide) rfl ?_
            exact s_sub [2, 1, 0, 3] rfl (hj1 x3 x8 s2)
set_option maxHeartbeats 4000000 in
set_option maxRecDepth 100000 in
theorem ctX6_worst (B fu : Nat) (σ : Mem) : CtI yX6_worst cX6_worst 4 (some .int) rmX6_worst B [rv B 0] σ (fX6_worst fu σ) := by
  refine ctI_intro (own := RX6) (lv := [(0, rv B 0)]) (by decide +kernel) rfl (Nat.le_of_ble_eq_true rfl) rfl (fun X hX => ?_)
  unfold fX6_worst
  refine s_aload_n 0 dX6_worst_0 rfl rfl ?_
  refine s_getr (n := 135) (k' := 136) dX6_worst_1 ly6 fl_X6_19 kd_0 rfl rfl rfl ?_
  refine s_Vv (rest := []) dX6_worst_4 lk_X6_155 meX2_findCosts (ctX2_findCosts B fu σ) kd_136 ⟨rfl, by decide⟩ rfl rfl ⟨rfl, rfl, by decide, by decide⟩ (Nat.le_of_ble_eq_true rfl) (fun _ s1 => ?_)
  refine s_iconst dX6_worst_7 ?_
  refine s_istore_n (lv' := [(1, iv (-1)), (0, rv B 0)]) dX6_worst_8 rfl (by decide) rfl ?_
  refine s_iconst dX6_worst_9 ?_
  refine s_istore_n (lv' := [(2, iv 0), (1, iv (-1)), (0, rv B 0)]) dX6_worst_10 rfl (by decide) rfl ?_
  refine s_iconst dX6_worst_11 ?_
  refine s_istore_n (lv' := [(3, iv 0), (2, iv 0), (1, iv (-1)), (0, rv B 0)]) dX6_worst_12 rfl (by decide) rfl ?_
  refine s_sub [3, 2, 1, 0] (lv' := [(0, rv B 0), (1, iv (-1)), (2, iv 0), (3, iv 0)]) rfl ?_
  refine fX6_worst_L13_s hX _ ?_ fu (-1) 0 0 s1
  intro x9 x10 s7
  refine s_iload_n 1 dX6_worst_67 rfl rfl ?_
  refine s_iconst dX6_worst_68 ?_
  refine s_icmp_ne (tgt := 75) dX6_worst_69 (by decide) ?_ ?_
  · refine s_aload_n 0 dX6_worst_75 rfl rfl ?_
    refine s_getr (n := 322) (k' := 323) dX6_worst_76 ly6 fl_X6_26 kd_0 rfl rfl rfl ?_
    refine s_iload_n 2 dX6_worst_79 rfl rfl ?_
    refine s_i2l dX6_worst_80 ?_
    refine s_Vv (rest := []) dX6_worst_81 lk_X6_175 meX3_putOne (ctX3_putOne B fu (w32 x10) s7) kd_323 ⟨rfl, by decide⟩ rfl rfl ⟨rfl, rfl, by decide, by decide⟩ (Nat.le_of_ble_eq_true rfl) (fun _ s8 => ?_)
    refine s_iload_n 1 dX6_worst_84 rfl rfl ?_
    exact s_iret hX dX6_worst_85
  · refine s_bipush dX6_worst_72 (by decide) ?_
    exact s_iret hX dX6_worst_74
abbrev rmX6_wait : Room := { frames := 4, cells := 0, slots := 0, locals := 94 }
abbrev SX6_wait (B : Nat) (X : Ctx) := Sim cX6_wait RX6 2 rmX6_wait B X
set_option maxHeartbeats 4000000 in
set_option maxRecDepth 100000 in
theorem ctX6_wait (B fu : Nat) (a0 : Int) (σ : Mem) : CtI yX6_wait cX6_wait 2 (some .int) rmX6_wait B [rv B 0, iv a0] σ (fX6_wait fu a0 σ) := by
  refine ctI_intro (own := RX6) (lv := [(0, rv B 0), (1, iv a0)]) (by decide +kernel) rfl (Nat.le_of_ble_eq_true rfl) rfl (fun X hX => ?_)
  unfold fX6_wait
  refine s_iload_n 1 dX6_wait_0 rfl rfl ?_
  refine s_Si (rest := []) dX6_wait_1 lk_X6_75 meX6_isStop (ctX6_isStop B fu a0 σ) rfl rfl ⟨rfl, rfl, by decide, by decide⟩ (Nat.le_of_ble_eq_true rfl) (fun x1 s1 => ?_)
  refine s_if_ne (tgt := 9) dX6_wait_4 (by decide) ?_ ?_
  · refine s_aload_n 0 dX6_wait_9 rfl rfl ?_
    refine s_getr (n := 135) (k' := 136) dX6_wait_10 ly6 fl_X6_19 kd_0 rfl rfl rfl ?_
    refine s_Vv (rest := []) dX6_wait_13 lk_X6_155 meX2_findCosts (ctX2_findCosts B fu s1) kd_136 ⟨rfl, by decide⟩ rfl rfl ⟨rfl, rfl, by decide, by decide⟩ (Nat.le_of_ble_eq_true rfl) (fun _ s2 => ?_)
    refine s_iload_n 1 dX6_wait_16 rfl rfl ?_
    refine s_aload_n 0 dX6_wait_17 rfl rfl ?_
    refine s_getr (n := 135) (k' := 136) dX6_wait_18 ly6 fl_X6_19 kd_0 rfl rfl rfl ?_
    refine s_geti dX6_wait_21 ly2 fl_X6_78 kd_136 rfl ?_
    refine s_jn (fun (j1 : Mem → PR) => ∀ (s6 : Mem), SX6_wait B X (j1 s6) s6 43 [] []) ?_ (fun j1 hj1 => ?_)
    · intro s3
      refine s_bipush dX6_wait_43 (by decide) ?_
      exact s_iret hX dX6_wait_45
    · refine s_icmp_eq (tgt := 43) dX6_wait_24 (by decide) ?_ ?_
      · exact s_sub [] rfl (hj1 s2)
      · refine s_aload_n 0 dX6_wait_27 rfl rfl ?_
        refine s_getr (n := 135) (k' := 136) dX6_wait_28 ly6 fl_X6_19 kd_0 rfl rfl rfl ?_
        refine s_getr (n := 133) (k' := 270) dX6_wait_31 ly2 fl_X6_81 kd_136 rfl rfl rfl ?_
        refine s_iload_n 1 dX6_wait_34 rfl rfl ?_
        refine s_aals dX6_wait_35 (fun p1 hp1 => ?_)
        refine s_geti dX6_wait_36 ly4 fl_X6_158 hp1 rfl ?_
        refine s_iconst dX6_wait_39 ?_
        refine s_icmp_ne (tgt := 46) dX6_wait_40 (by decide) ?_ ?_
        · refine s_aload_n 0 dX6_wait_46 rfl rfl ?_
          refine s_getr (n := 135) (k' := 136) dX6_wait_47 ly6 fl_X6_19 kd_0 rfl rfl rfl ?_
          refine s_Vl (rest := []) dX6_wait_50 lk_X6_202 meX2_waitingWeight (ctX2_waitingWeight B fu s2) kd_136 ⟨rfl, by decide⟩ rfl rfl ⟨rfl, rfl, by decide, by decide⟩ (Nat.le_of_ble_eq_true rfl) (fun x2 s4 => ?_)
          refine s_aload_n 0 dX6_wait_53 rfl rfl ?_
          refine s_getr (n := 135) (k' := 136) dX6_wait_54 ly6 fl_X6_19 kd_0 rfl rfl rfl ?_
          refine s_getr (n := 133) (k' := 270) dX6_wait_57 ly2 fl_X6_81 kd_136 rfl rfl rfl ?_
          refine s_iload_n 1 dX6_wait_60 rfl rfl ?_
          refine s_aals dX6_wait_61 (fun p2 hp2 => ?_)
          refine s_geti dX6_wait_62 ly4 fl_X6_161 hp2 rfl ?_
          refine s_i2l dX6_wait_65 ?_
          refine s_Sl (rest := []) dX6_wait_66 lk_X6_206 meX6_parts (ctX6_parts B fu x2 (w32 (s4 p2 5)) s4) rfl rfl ⟨rfl, rfl, by decide, by decide⟩ (Nat.le_of_ble_eq_true rfl) (fun x3 s5 => ?_)
          refine s_l2i dX6_wait_69 ?_
          exact s_iret hX dX6_wait_70
        · exact s_sub [] rfl (hj1 s2)
  · refine s_iconst dX6_wait_7 ?_
    exact s_iret hX dX6_wait_8
abbrev rmX6_boards : Room := { frames := 4, cells := 0, slots := 0, locals := 94 }
abbrev SX6_boards (B : Nat) (X : Ctx) := Sim cX6_boards RX6 2 rmX6_boards B X
set_option maxHeartbeats 4000000 in
set_option maxRecDepth 100000 in
theorem ctX6_boards (B fu : Nat) (a0 : Int) (σ : Mem) : CtI yX6_boards cX6_boards 2 (some .int) rmX6_boards B [rv B 0, iv a0] σ (fX6_boards fu a0 σ) := by
  refine ctI_intro (own := RX6) (lv := [(0, rv B 0), (1, iv a0)]) (by decide +kernel) rfl (Nat.le_of_ble_eq_true rfl) rfl (fun X hX => ?_)
  unfold fX6_boards
  refine s_iload_n 1 dX6_boards_0 rfl rfl ?_
  refine s_Si (rest := []) dX6_boards_1 lk_X6_75 meX6_isStop (ctX6_isStop B fu a0 σ) rfl rfl ⟨rfl, rfl, by decide, by decide⟩ (Nat.le_of_ble_eq_true rfl) (fun x1 s1 => ?_)
  refine s_if_ne (tgt := 9) dX6_boards_4 (by decide) ?_ ?_
  · refine s_aload_n 0 dX6_boards_9 rfl rfl ?_
    refine s_getr (n := 135) (k' := 136) dX6_boards_10 ly6 fl_X6_19 kd_0 rfl rfl rfl ?_
    refine s_Vv (rest := []) dX6_boards_13 lk_X6_155 meX2_findCosts (ctX2_findCosts B fu s1) kd_136 ⟨rfl, by decide⟩ rfl rfl ⟨rfl, rfl, by decide, by decide⟩ (Nat.le_of_ble_eq_true rfl) (fun _ s2 => ?_)
    refine s_aload_n 0 dX6_boards_16 rfl rfl ?_
    refine s_getr (n := 135) (k' := 136) dX6_boards_17 ly6 fl_X6_19 kd_0 rfl rfl rfl ?_
    refine s_getr (n := 133) (k' := 270) dX6_boards_20 ly2 fl_X6_81 kd_136 rfl rfl rfl ?_
    refine s_iload_n 1 dX6_boards_23 rfl rfl ?_
    refine s_aals dX6_boards_24 (fun p1 hp1 => ?_)
    refine s_geti dX6_boards_25 ly4 fl_X6_158 hp1 rfl ?_
    refine s_iconst dX6_boards_28 ?_
    refine s_icmp_ne (tgt := 35) dX6_boards_29 (by decide) ?_ ?_
    · refine s_aload_n 0 dX6_boards_35 rfl rfl ?_
      refine s_getr (n := 135) (k' := 136) dX6_boards_36 ly6 fl_X6_19 kd_0 rfl rfl rfl ?_
      refine s_Vv (rest := []) dX6_boards_39 lk_X6_210 meX2_findBoards (ctX2_findBoards B fu s2) kd_136 ⟨rfl, by decide⟩ rfl rfl ⟨rfl, rfl, by decide, by decide⟩ (Nat.le_of_ble_eq_true rfl) (fun _ s3 => ?_)
      refine s_aload_n 0 dX6_boards_42 rfl rfl ?_
      refine s_getr (n := 135) (k' := 136) dX6_boards_43 ly6 fl_X6_19 kd_0 rfl rfl rfl ?_
      refine s_getr (n := 133) (k' := 270) dX6_boards_46 ly2 fl_X6_81 kd_136 rfl rfl rfl ?_
      refine s_iload_n 1 dX6_boards_49 rfl rfl ?_
      refine s_aals dX6_boards_50 (fun p2 hp2 => ?_)
      refine s_geti dX6_boards_51 ly4 fl_X6_213 hp2 rfl ?_
      exact s_iret hX dX6_boards_54
    · refine s_bipush dX6_boards_32 (by decide) ?_
      exact s_iret hX dX6_boards_34
  · refine s_iconst dX6_boards_7 ?_
    exact s_iret hX dX6_boards_8
abbrev rmX6_slack : Room := { frames := 4, cells := 0, slots := 0, locals := 94 }
abbrev SX6_slack (B : Nat) (X : Ctx) := Sim cX6_slack RX6 6 rmX6_slack B X
set_option maxHeartbeats 4000000 in
set_option maxRecDepth 100000 in
theorem ctX6_slack (B fu : Nat) (a0 : Int) (a1 : Int) (σ : Mem) : CtI yX6_slack cX6_slack 6 (some .int) rmX6_slack B [rv B 0, iv a0, iv a1] σ (fX6_slack fu a0 a1 σ) := by
  refine ctI_intro (own := RX6) (lv := [(0, rv B 0), (1, iv a0), (2, iv a1)]) (by decide +kernel) rfl (Nat.le_of_ble_eq_true rfl) rfl (fun X hX => ?_)
  unfold fX6_slack
  refine s_aload_n 0 dX6_slack_0 rfl rfl ?_
  refine s_getr (n := 135) (k' := 136) dX6_slack_1 ly6 fl_X6_19 kd_0 rfl rfl rfl ?_
  refine s_iload_n 1 dX6_slack_4 rfl rfl ?_
  refine s_iload_n 2 dX6_slack_5 rfl rfl ?_
  refine s_Vi (rest := []) dX6_slack_6 lk_X6_186 meX2_hasStep (ctX2_hasStep B fu a0 a1 σ) kd_136 ⟨rfl, by decide⟩ rfl rfl ⟨rfl, rfl, by decide, by decide⟩ (Nat.le_of_ble_eq_true rfl) (fun x1 s1 => ?_)
  refine s_if_ne (tgt := 14) dX6_slack_9 (by decide) ?_ ?_
  · refine s_aload_n 0 dX6_slack_14 rfl rfl ?_
    refine s_getr (n := 135) (k' := 136) dX6_slack_15 ly6 fl_X6_19 kd_0 rfl rfl rfl ?_
    refine s_Vv (rest := []) dX6_slack_18 lk_X6_155 meX2_findCosts (ctX2_findCosts B fu s1) kd_136 ⟨rfl, by decide⟩ rfl rfl ⟨rfl, rfl, by decide, by decide⟩ (Nat.le_of_ble_eq_true rfl) (fun _ s2 => ?_)
    refine s_aload_n 0 dX6_slack_21 rfl rfl ?_
    refine s_getr (n := 135) (k' := 136) dX6_slack_22 ly6 fl_X6_19 kd_0 rfl rfl rfl ?_
    refine s_getd dX6_slack_25 ly2 fl_X6_90 kd_136 rfl rfl (fun p1 hp1 => ?_)
    refine s_iload_n 1 dX6_slack_28 rfl rfl ?_
    refine s_aald dX6_slack_29 hp1 (fun p2 hp2 => ?_)
    refine s_astore_n (lv' := [(3, rv B p2), (0, rv B 0), (1, iv a0), (2, iv a1)]) dX6_slack_30 rfl (by decide) rfl ?_
    refine s_aload_n 0 dX6_slack_31 rfl rfl ?_
    refine s_getr (n := 0) (k' := p2 + 1) dX6_slack_32 ly1 fl_X6_153 hp2 rfl rfl rfl ?_
    refine s_iload_n 3 dX6_slack_35 rfl rfl ?_
    refine s_iald 8 dX6_slack_36 (kdL1 hp2) (by decide) (fun x2 => ?_)
    refine s_istore (lv' := [(4, iv x2), (3, rv B p2), (0, rv B 0), (1, iv a0), (2, iv a1)]) dX6_slack_37 (by decide) rfl ?_
    refine s_aload_n 2 dX6_slack_39 rfl rfl ?_
    refine s_getr (n := 135) (k' := 136) dX6_slack_40 ly6 fl_X6_19 kd_0 rfl rfl rfl ?_
    refine s_getr (n := 133) (k' := 270) dX6_slack_43 ly2 fl_X6_81 kd_136 rfl rfl rfl ?_
    refine s_iload 0 dX6_slack_46 rfl ?_
    refine s_aals dX6_slack_48 (fun p3 hp3 => ?_)
    refine s_geti dX6_slack_49 ly4 fl_X6_158 hp3 rfl ?_
    refine s_lti (fun x3 => ?_)
    refine s_istore (lv' := [(5, iv x3), (4, iv x2), (3, rv B p2), (0, rv B 0), (1, iv a0), (2, iv a1)]) dX6_slack_52 (by decide) rfl ?_
    refine s_aload_n 2 dX6_slack_54 rfl rfl ?_
    refine s_getr (n := 5) (k' := p2 + 6) dX6_slack_55 ly1 fl_X6_189 hp2 rfl rfl rfl ?_
    refine s_iload_n 5 dX6_slack_58 rfl rfl ?_
    refine s_iald 8 dX6_slack_59 (kdL6 hp2) (by decide) (fun x4 => ?_)
    refine s_iconst dX6_slack_60 ?_
    refine s_jn (fun (j1 : Mem → PR) => ∀ (s7 : Mem), SX6_slack B X (j1 s7) s7 89 [] []) ?_ (fun j1 hj1 => ?_)
    · intro s3
      refine s_bipush dX6_slack_89 (by decide) ?_
      exact s_iret hX dX6_slack_91
    · refine s_icmp_eq (tgt := 89) dX6_slack_61 (by decide) ?_ ?_
      · exact s_sub [] rfl (hj1 s2)
      · refine s_iload 0 dX6_slack_64 rfl ?_
        refine s_iconst dX6_slack_66 ?_
        refine s_icmp_eq (tgt := 89) dX6_slack_67 (by decide) ?_ ?_
        · exact s_sub [] rfl (hj1 s2)
        · refine s_iload 1 dX6_slack_70 rfl ?_
          refine s_aload_n 3 dX6_slack_72 rfl rfl ?_
          refine s_getr (n := 135) (k' := 136) dX6_slack_73 ly6 fl_X6_19 kd_0 rfl rfl rfl ?_
          refine s_geti dX6_slack_76 ly2 fl_X6_78 kd_136 rfl ?_
          refine s_icmp_eq (tgt := 89) dX6_slack_79 (by decide) ?_ ?_
          · exact s_sub [] rfl (hj1 s2)
          · refine s_aload_n 2 dX6_slack_82 rfl rfl ?_
            refine s_geti dX6_slack_83 ly1 fl_X6_94 hp2 rfl ?_
            refine s_if_eq (tgt := 92) dX6_slack_86 (by decide) ?_ ?_
            · refine s_aload_n 3 dX6_slack_92 rfl rfl ?_
              refine s_getr (n := 135) (k' := 136) dX6_slack_93 ly6 fl_X6_19 kd_0 rfl rfl rfl ?_
              refine s_iload_n 4 dX6_slack_96 rfl rfl ?_
              refine s_iload_n 5 dX6_slack_97 rfl rfl ?_
              refine s_Vi (rest := []) dX6_slack_98 lk_X6_192 meX2_isTaken (ctX2_isTaken B fu a0 a1 s2) kd_136 ⟨rfl, by decide⟩ rfl rfl ⟨rfl, rfl, by decide, by decide⟩ (Nat.le_of_ble_eq_true rfl) (fun x5 s4 => ?_)
              refine s_jn (fun (j2 : Int → Mem → PR) => ∀ (x6 : Int) (s6 : Mem), SX6_slack B X (j2 x6 s6) s6 119 [] [iv x6]) ?_ (fun j2 hj2 => ?_)
              · intro x6 s5
                exact s_iret hX dX6_slack_119
              · refine s_if_eq (tgt := 108) dX6_slack_101 (by decide) ?_ ?_
                · refine s_aload_n 2 dX6_slack_108 rfl rfl ?_
                  refine s_getr (n := 5) (k' := p2 + 6) dX6_slack_109 ly1 fl_X6_189 hp2 rfl rfl rfl ?_
                  refine s_iload_n 5 dX6_slack_112 rfl rfl ?_
                  refine s_iald 8 dX6_slack_113 (kdL6 hp2) (by decide) (fun x7 => ?_)
                  refine s_iload 0 dX6_slack_114 rfl ?_
                  refine s_isub dX6_slack_116 ?_
                  refine s_iconst dX6_slack_117 ?_
                  refine s_iadd dX6_slack_118 ?_
                  exact s_sub [] rfl (hj2 ((x7 - x3) + 1) s4)
                · refine s_iconst dX6_slack_104 ?_
                  refine s_goto (tgt := 119) dX6_slack_105 (by decide) ?_
                  exact s_sub [] rfl (hj2 0 s4)
            · exact s_sub [] rfl (hj1 s2)
  · refine s_iconst dX6_slack_12 ?_
    exact s_iret hX dX6_slack_13
abbrev rmX6_reach : Room := { frames := 4, cells := 0, slots := 0, locals := 94 }
abbrev SX6_reach (B : Nat) (X : Ctx) := Sim cX6_reach RX6 3 rmX6_reach B X
set_option maxHeartbeats 4000000 in
set_option maxRecDepth 100000 in
theorem ctX6_reach (B fu : Nat) (a0 : Int) (σ : Mem) : CtI yX6_reach cX6_reach 3 (some .int) rmX6_reach B [rv B 0, iv a0] σ (fX6_reach fu a0 σ) := by
  refine ctI_intro (own := RX6) (lv := [(0, rv B 0), (1, iv a0)]) (by decide +kernel) rfl (Nat.le_of_ble_eq_true rfl) rfl (fun X hX => ?_)
  unfold fX6_reach
  refine s_iload_n 1 dX6_reach_0 rfl rfl ?_
  refine s_if_ge (tgt := 6) dX6_reach_1 (by decide) ?_ ?_
  · refine s_aload_n 0 dX6_reach_6 rfl rfl ?_
    refine s_getr (n := 135) (k' := 136) dX6_reach_7 ly6 fl_X6_19 kd_0 rfl rfl rfl ?_
    refine s_Vv (rest := []) dX6_reach_10 lk_X6_155 meX2_findCosts (ctX2_findCosts B fu σ) kd_136 ⟨rfl, by decide⟩ rfl rfl ⟨rfl, rfl, by decide, by decide⟩ (Nat.le_of_ble_eq_true rfl) (fun _ s1 => ?_)
    refine s_aload_n 0 dX6_reach_13 rfl rfl ?_
    refine s_getr (n := 135) (k' := 136) dX6_reach_14 ly6 fl_X6_19 kd_0 rfl rfl rfl ?_
    refine s_iload_n 1 dX6_reach_17 rfl rfl ?_
    refine s_Vi (rest := []) dX6_reach_18 lk_X6_172 meX2_stopsWithin (ctX2_stopsWithin B fu a0 s1) kd_136 ⟨rfl, by decide⟩ rfl rfl ⟨rfl, rfl, by decide, by decide⟩ (Nat.le_of_ble_eq_true rfl) (fun x1 s2 => ?_)
    refine s_istore_n (lv' := [(2, iv x1), (0, rv B 0), (1, iv a0)]) dX6_reach_21 rfl (by decide) rfl ?_
    refine s_aload_n 1 dX6_reach_22 rfl rfl ?_
    refine s_getr (n := 322) (k' := 323) dX6_reach_23 ly6 fl_X6_26 kd_0 rfl rfl rfl ?_
    refine s_iload_n 0 dX6_reach_26 rfl rfl ?_
    refine s_i2l dX6_reach_27 ?_
    refine s_Vv (rest := []) dX6_reach_28 lk_X6_175 meX3_putOne (ctX3_putOne B fu (w32 x1) s2) kd_323 ⟨rfl, by decide⟩ rfl rfl ⟨rfl, rfl, by decide, by decide⟩ (Nat.le_of_ble_eq_true rfl) (fun _ s3 => ?_)
    refine s_iload_n 0 dX6_reach_31 rfl rfl ?_
    refine s_Si (rest := []) dX6_reach_32 lk_X6_104 meJ6_bitCount_0f7a4 (ctJ6_bitCount_0f7a4 B fu x1 s3) rfl rfl ⟨rfl, rfl, by decide, by decide⟩ (Nat.le_of_ble_eq_true rfl) (fun x2 s4 => ?_)
    exact s_iret hX dX6_reach_35
  · refine s_iconst dX6_reach_4 ?_
    exact s_iret hX dX6_reach_5
abbrev rmX6_between : Room := { frames := 4, cells := 0, slots := 0, locals := 94 }
abbrev SX6_between (B : Nat) (X : Ctx) := Sim cX6_between RX6 5 rmX6_between B X
set_option maxHeartbeats 4000000 in
set_option maxRecDepth 100000 in
theorem ctX6_between (B fu : Nat) (a0 : Int) (a1 : Int) (σ : Mem) : CtI yX6_between cX6_between 5 (some .int) rmX6_between B [rv B 0, iv a0, iv a1] σ (fX6_between fu a0 a1 σ) := by
  refine ctI_intro (own := RX6) (lv := [(0, rv B 0), (1, iv a0), (2, iv a1)]) (by decide +kernel) rfl (Nat.le_of_ble_eq_true rfl) rfl (fun X hX => ?_)
  unfold fX6_between
  refine s_iload_n 1 dX6_between_0 rfl rfl ?_
  refine s_Si (rest := []) dX6_between_1 lk_X6_75 meX6_isStop (ctX6_isStop B fu a0 σ) rfl rfl ⟨rfl, rfl, by decide, by decide⟩ (Nat.le_of_ble_eq_true rfl) (fun x1 s1 => ?_)
  refine s_jn (fun (j1 : Mem → PR) => ∀ (s8 : Mem), SX6_between B X (j1 s8) s8 14 [] []) ?_ (fun j1 hj1 => ?_)
  · intro s2
    refine s_iconst dX6_between_14 ?_
    exact s_iret hX dX6_between_15
  · refine s_if_eq (tgt := 14) dX6_between_4 (by decide) ?_ ?_
    · exact s_sub [] rfl (hj1 s1)
    · refine s_iload_n 2 dX6_between_7 rfl rfl ?_
      refine s_Si (rest := []) dX6_between_8 lk_X6_75 meX6_isStop (ctX6_isStop B fu a1 s1) rfl rfl ⟨rfl, rfl, by decide, by decide⟩ (Nat.le_of_ble_eq_true rfl) (fun x2 s3 => ?_)
      refine s_if_ne (tgt := 16) dX6_between_11 (by decide) ?_ ?_
      · refine s_aload_n 0 dX6_between_16 rfl rfl ?_
        refine s_getr (n := 135) (k' := 136) dX6_between_17 ly6 fl_X6_19 kd_0 rfl rfl rfl ?_
        refine s_geti dX6_between_20 ly2 fl_X6_78 kd_136 rfl ?_
        refine s_lti (fun x3 => ?_)
        refine s_istore_n (lv' := [(3, iv x3), (0, rv B 0), (1, iv a0), (2, iv a1)]) dX6_between_23 rfl (by decide) rfl ?_
        refine s_aload_n 1 dX6_between_24 rfl rfl ?_
        refine s_getr (n := 135) (k' := 136) dX6_between_25 ly6 fl_X6_19 kd_0 rfl rfl rfl ?_
        refine s_iload_n 3 dX6_between_28 rfl rfl ?_
        refine s_puti dX6_between_29 ly2 ty2 fl_X6_78 kd_136 rfl po2_4 ⟨rfl, rfl, by decide⟩ (fun s4 => ?_)
        refine s_aload_n 1 dX6_between_32 rfl rfl ?_
        refine s_getr (n := 135) (k' := 136) dX6_between_33 ly6 fl_X6_19 kd_0 rfl rfl rfl ?_
        refine s_Vv (rest := []) dX6_between_36 lk_X6_155 meX2_findCosts (ctX2_findCosts B fu s4) kd_136 ⟨rfl, by decide⟩ rfl rfl ⟨rfl, rfl, by decide, by decide⟩ (Nat.le_of_ble_eq_true rfl) (fun _ s5 => ?_)
        refine s_aload_n 1 dX6_between_39 rfl rfl ?_
        refine s_getr (n := 135) (k' := 136) dX6_between_40 ly6 fl_X6_19 kd_0 rfl rfl rfl ?_
        refine s_iload_n 0 dX6_between_43 rfl rfl ?_
        refine s_puti dX6_between_44 ly2 ty2 fl_X6_78 kd_136 rfl po2_4 ⟨rfl, rfl, by decide⟩ (fun s6 => ?_)
        refine s_aload_n 1 dX6_between_47 rfl rfl ?_
        refine s_getr (n := 135) (k' := 136) dX6_between_48 ly6 fl_X6_19 kd_0 rfl rfl rfl ?_
        refine s_getr (n := 133) (k' := 270) dX6_between_51 ly2 fl_X6_81 kd_136 rfl rfl rfl ?_
        refine s_iload_n 2 dX6_between_54 rfl rfl ?_
        refine s_aals dX6_between_55 (fun p1 hp1 => ?_)
        refine s_geti dX6_between_56 ly4 fl_X6_158 hp1 rfl ?_
        refine s_lti (fun x4 => ?_)
        refine s_istore (lv' := [(4, iv x4), (3, iv x3), (0, rv B 0), (1, iv a0), (2, iv a1)]) dX6_between_59 (by decide) rfl ?_
        refine s_iload 0 dX6_between_61 rfl ?_
        refine s_iconst dX6_between_63 ?_
        refine s_icmp_ne (tgt := 70) dX6_between_64 (by decide) ?_ ?_
        · refine s_aload_n 2 dX6_between_70 rfl rfl ?_
          refine s_getr (n := 322) (k' := 323) dX6_between_71 ly6 fl_X6_26 kd_0 rfl rfl rfl ?_
          refine s_aload_n 2 dX6_between_74 rfl rfl ?_
          refine s_getr (n := 135) (k' := 136) dX6_between_75 ly6 fl_X6_19 kd_0 rfl rfl rfl ?_
          refine s_geti dX6_between_78 ly2 fl_X6_178 kd_136 rfl ?_
          refine s_i2l dX6_between_81 ?_
          refine s_Vv (rest := []) dX6_between_82 lk_X6_175 meX3_putOne (ctX3_putOne B fu (w32 (s6 136 7)) s6) kd_323 ⟨rfl, by decide⟩ rfl rfl ⟨rfl, rfl, by decide, by decide⟩ (Nat.le_of_ble_eq_true rfl) (fun _ s7 => ?_)
          refine s_iload 0 dX6_between_85 rfl ?_
          exact s_iret hX dX6_between_87
        · refine s_bipush dX6_between_67 (by decide) ?_
          exact s_iret hX dX6_between_69
      · exact s_sub [] rfl (hj1 s3)
abbrev rmX6_load : Room := { frames := 5, cells := 0, slots := 0, locals := 114 }
abbrev SX6_load (B : Nat) (X : Ctx) := Sim cX6_load RX6 3 rmX6_load B X
set_option maxHeartbeats 4000000 in
set_option maxRecDepth 100000 in
theorem ctX6_load (B fu : Nat) (a0 : Int) (a1 : Int) (σ : Mem) : CtI yX6_load cX6_load 3 (some .int) rmX6_load B [rv B 0, iv a0, iv a1] σ (fX6_load fu a0 a1 σ) := by
  refine ctI_intro (own := RX6) (lv := [(0, rv B 0), (1, iv a0), (2, iv a1)]) (by decide +kernel) rfl (Nat.le_of_ble_eq_true rfl) rfl (fun X hX => ?_)
  unfold fX6_load
  refine s_aload_n 0 dX6_load_0 rfl rfl ?_
  refine s_getr (n := 135) (k' := 136) dX6_load_1 ly6 fl_X6_19 kd_0 rfl rfl rfl ?_
  refine s_iload_n 1 dX6_load_4 rfl rfl ?_
  refine s_iload_n 2 dX6_load_5 rfl rfl ?_
  refine s_Vi (rest := []) dX6_load_6 lk_X6_186 meX2_hasStep (ctX2_hasStep B fu a0 a1 σ) kd_136 ⟨rfl, by decide⟩ rfl rfl ⟨rfl, rfl, by decide, by decide⟩ (Nat.le_of_ble_eq_true rfl) (fun x1 s1 => ?_)
  refine s_if_ne (tgt := 14) dX6_load_9 (by decide) ?_ ?_
  · refine s_aload_n 0 dX6_load_14 rfl rfl ?_
    refine s_getr (n := 135) (k' := 136) dX6_load_15 ly6 fl_X6_19 kd_0 rfl rfl rfl ?_
    refine s_Vv (rest := []) dX6_load_18 lk_X6_216 meX2_findLoads (ctX2_findLoads B fu s1) kd_136 ⟨rfl, by decide⟩ rfl rfl ⟨rfl, rfl, by decide, by decide⟩ (Nat.le_of_ble_eq_true rfl) (fun _ s2 => ?_)
    refine s_aload_n 0 dX6_load_21 rfl rfl ?_
    refine s_getr (n := 135) (k' := 136) dX6_load_22 ly6 fl_X6_19 kd_0 rfl rfl rfl ?_
    refine s_getd dX6_load_25 ly2 fl_X6_90 kd_136 rfl rfl (fun p1 hp1 => ?_)
    refine s_iload_n 1 dX6_load_28 rfl rfl ?_
    refine s_aald dX6_load_29 hp1 (fun p2 hp2 => ?_)
    refine s_getr (n := 7) (k' := p2 + 8) dX6_load_30 ly1 fl_X6_219 hp2 rfl rfl rfl ?_
    refine s_iload_n 2 dX6_load_33 rfl rfl ?_
    refine s_iald 8 dX6_load_34 (kdL8 hp2) (by decide) (fun x2 => ?_)
    exact s_iret hX dX6_load_35
  · refine s_iconst dX6_load_12 ?_
    exact s_iret hX dX6_load_13
abbrev rmX6_passes : Room := { frames := 5, cells := 0, slots := 0, locals := 114 }
abbrev SX6_passes (B : Nat) (X : Ctx) := Sim cX6_passes RX6 3 rmX6_passes B X
set_option maxHeartbeats 4000000 in
set_option maxRecDepth 100000 in
theorem ctX6_passes (B fu : Nat) (a0 : Int) (σ : Mem) : CtI yX6_passes cX6_passes 3 (some .int) rmX6_passes B [rv B 0, iv a0] σ (fX6_passes fu a0 σ) := by
  refine ctI_intro (own := RX6) (lv := [(0, rv B 0), (1, iv a0)]) (by decide +kernel) rfl (Nat.le_of_ble_eq_true rfl) rfl (fun X hX => ?_)
  unfold fX6_passes
  refine s_iload_n 1 dX6_passes_0 rfl rfl ?_
  refine s_Si (rest := []) dX6_passes_1 lk_X6_75 meX6_isStop (ctX6_isStop B fu a0 σ) rfl rfl ⟨rfl, rfl, by decide, by decide⟩ (Nat.le_of_ble_eq_true rfl) (fun x1 s1 => ?_)
  refine s_if_ne (tgt := 9) dX6_passes_4 (by decide) ?_ ?_
  · refine s_aload_n 0 dX6_passes_9 rfl rfl ?_
    refine s_getr (n := 135) (k' := 136) dX6_passes_10 ly6 fl_X6_19 kd_0 rfl rfl rfl ?_
    refine s_Vv (rest := []) dX6_passes_13 lk_X6_216 meX2_findLoads (ctX2_findLoads B fu s1) kd_136 ⟨rfl, by decide⟩ rfl rfl ⟨rfl, rfl, by decide, by decide⟩ (Nat.le_of_ble_eq_true rfl) (fun _ s2 => ?_)
    refine s_aload_n 0 dX6_passes_16 rfl rfl ?_
    refine s_getr (n := 135) (k' := 136) dX6_passes_17 ly6 fl_X6_19 kd_0 rfl rfl rfl ?_
    refine s_getr (n := 133) (k' := 270) dX6_passes_20 ly2 fl_X6_81 kd_136 rfl rfl rfl ?_
    refine s_iload_n 1 dX6_passes_23 rfl rfl ?_
    refine s_aals dX6_passes_24 (fun p1 hp1 => ?_)
    refine s_astore_n (lv' := [(2, rv B p1), (0, rv B 0), (1, iv a0)]) dX6_passes_25 rfl (by decide) rfl ?_
    refine s_aload_n 1 dX6_passes_26 rfl rfl ?_
    refine s_getr (n := 322) (k' := 323) dX6_passes_27 ly6 fl_X6_26 kd_0 rfl rfl rfl ?_
    refine s_aload_n 0 dX6_passes_30 rfl rfl ?_
    refine s_geti dX6_passes_31 ly4 fl_X6_222 hp1 rfl ?_
    refine s_i2l dX6_passes_34 ?_
    refine s_Vv (rest := []) dX6_passes_35 lk_X6_175 meX3_putOne (ctX3_putOne B fu (w32 (s2 p1 6)) s2) kd_323 ⟨rfl, by decide⟩ rfl rfl ⟨rfl, rfl, by decide, by decide⟩ (Nat.le_of_ble_eq_true rfl) (fun _ s3 => ?_)
    refine s_aload_n 0 dX6_passes_38 rfl rfl ?_
    refine s_geti dX6_passes_39 ly4 fl_X6_85 hp1 rfl ?_
    refine s_aload_n 0 dX6_passes_42 rfl rfl ?_
    refine s_geti dX6_passes_43 ly4 fl_X6_222 hp1 rfl ?_
    refine s_iadd dX6_passes_46 ?_
    exact s_iret hX dX6_passes_47
  · refine s_iconst dX6_passes_7 ?_
    exact s_iret hX dX6_passes_8
abbrev rmX6_ridden : Room := { frames := 5, cells := 0, slots := 0, locals := 114 }
abbrev SX6_ridden (B : Nat) (X : Ctx) := Sim cX6_ridden RX6 4 rmX6_ridden B X
set_option maxHeartbeats 4000000 in
set_option maxRecDepth 100000 in
theorem ctX6_ridden (B fu : Nat) (a0 : Int) (σ : Mem) : CtI yX6_ridden cX6_ridden 4 (some .int) rmX6_ridden B [rv B 0, iv a0] σ (fX6_ridden fu a0 σ) := by
  refine ctI_intro (own := RX6) (lv := [(0, rv B 0), (1, iv a0)]) (by decide +kernel) rfl (Nat.le_of_ble_eq_true rfl) rfl (fun X hX => ?_)
  unfold fX6_ridden
  refine s_aload_n 0 dX6_ridden_0 rfl rfl ?_
  refine s_getr (n := 135) (k' := 136) dX6_ridden_1 ly6 fl_X6_19 kd_0 rfl rfl rfl ?_
  refine s_iload_n 1 dX6_ridden_4 rfl rfl ?_
  refine s_Vi (rest := []) dX6_ridden_5 lk_X6_65 meX2_hasLine (ctX2_hasLine B fu a0 σ) kd_136 ⟨rfl, by decide⟩ rfl rfl ⟨rfl, rfl, by decide, by decide⟩ (Nat.le_of_ble_eq_true rfl) (fun x1 s1 => ?_)
  refine s_if_ne (tgt := 13) dX6_ridden_8 (by decide) ?_ ?_
  · refine s_aload_n 0 dX6_ridden_13 rfl rfl ?_
    refine s_getr (n := 135) (k' := 136) dX6_ridden_14 ly6 fl_X6_19 kd_0 rfl rfl rfl ?_
    refine s_Vv (rest := []) dX6_ridden_17 lk_X6_216 meX2_findLoads (ctX2_findLoads B fu s1) kd_136 ⟨rfl, by decide⟩ rfl rfl ⟨rfl, rfl, by decide, by decide⟩ (Nat.le_of_ble_eq_true rfl) (fun _ s2 => ?_)
    refine s_aload_n 0 dX6_ridden_20 rfl rfl ?_
    refine s_getr (n := 135) (k' := 136) dX6_ridden_21 ly6 fl_X6_19 kd_0 rfl rfl rfl ?_
    refine s_getd dX6_ridden_24 ly2 fl_X6_90 kd_136 rfl rfl (fun p1 hp1 => ?_)
    refine s_iload_n 1 dX6_ridden_27 rfl rfl ?_
    refine s_aald dX6_ridden_28 hp1 (fun p2 hp2 => ?_)
    refine s_astore_n (lv' := [(2, rv B p2), (0, rv B 0), (1, iv a0)]) dX6_ridden_29 rfl (by decide) rfl ?_
    refine s_aload_n 0 dX6_ridden_30 rfl rfl ?_
    refine s_Vi (rest := []) dX6_ridden_31 lk_X6_225 meX1_fullestStep (ctX1_fullestStep B fu p2 hp2 s2) hp2 ⟨rfl, by decide⟩ rfl rfl ⟨rfl, rfl, by decide, by decide⟩ (Nat.le_of_ble_eq_true rfl) (fun x2 s3 => ?_)
    refine s_istore_n (lv' := [(3, iv x2), (2, rv B p2), (0, rv B 0), (1, iv a0)]) dX6_ridden_34 rfl (by decide) rfl ?_
    refine s_aload_n 2 dX6_ridden_35 rfl rfl ?_
    refine s_getr (n := 322) (k' := 323) dX6_ridden_36 ly6 fl_X6_26 kd_0 rfl rfl rfl ?_
    refine s_aload_n 1 dX6_ridden_39 rfl rfl ?_
    refine s_getr (n := 7) (k' := p2 + 8) dX6_ridden_40 ly1 fl_X6_219 hp2 rfl rfl rfl ?_
    refine s_iload_n 0 dX6_ridden_43 rfl rfl ?_
    refine s_iald 8 dX6_ridden_44 (kdL8 hp2) (by decide) (fun x3 => ?_)
    refine s_i2l dX6_ridden_45 ?_
    refine s_iload_n 0 dX6_ridden_46 rfl rfl ?_
    refine s_i2l dX6_ridden_47 ?_
    refine s_Vv (rest := []) dX6_ridden_48 lk_X6_167 meX3_putTwo (ctX3_putTwo B fu (w32 x3) (w32 x2) s3) kd_323 ⟨rfl, by decide⟩ rfl rfl ⟨rfl, rfl, by decide, by decide⟩ (Nat.le_of_ble_eq_true rfl) (fun _ s4 => ?_)
    refine s_aload_n 1 dX6_ridden_51 rfl rfl ?_
    refine s_Vi (rest := []) dX6_ridden_52 lk_X6_228 meX1_allEntering (ctX1_allEntering B fu p2 hp2 s4) hp2 ⟨rfl, by decide⟩ rfl rfl ⟨rfl, rfl, by decide, by decide⟩ (Nat.le_of_ble_eq_true rfl) (fun x4 s5 => ?_)
    exact s_iret hX dX6_ridden_55
  · refine s_iconst dX6_ridden_11 ?_
    exact s_iret hX dX6_ridden_12
abbrev rmX6_boardings : Room := { frames := 5, cells := 0, slots := 0, locals := 114 }
abbrev SX6_boardings (B : Nat) (X : Ctx) := Sim cX6_boardings RX6 3 rmX6_boardings B X
set_option maxHeartbeats 4000000 in
set_option maxRecDepth 100000 in
theorem ctX6_boardings (B fu : Nat) (a0 : Int) (a1 : Int) (σ : Mem) : CtI yX6_boardings cX6_boardings 3 (some .int) rmX6_boardings B [rv B 0, iv a0, iv a1] σ (fX6_boardings fu a0 a1 σ) := by
  refine ctI_intro (own := RX6) (lv := [(0, rv B 0), (1, iv a0), (2, iv a1)]) (by decide +kernel) rfl (Nat.le_of_ble_eq_true rfl) rfl (fun X hX => ?_)
  unfold fX6_boardings
  refine s_aload_n 0 dX6_boardings_0 rfl rfl ?_
  refine s_getr (n := 135) (k' := 136) dX6_boardings_1 ly6 fl_X6_19 kd_0 rfl rfl rfl ?_
  refine s_iload_n 1 dX6_boardings_4 rfl rfl ?_
  refine s_iload_n 2 dX6_boardings_5 rfl rfl ?_
  refine s_Vi (rest := []) dX6_boardings_6 lk_X6_132 meX2_hasHalt (ctX2_hasHalt B fu a0 a1 σ) kd_136 ⟨rfl, by decide⟩ rfl rfl ⟨rfl, rfl, by decide, by decide⟩ (Nat.le_of_ble_eq_true rfl) (fun x1 s1 => ?_)
  refine s_if_ne (tgt := 14) dX6_boardings_9 (by decide) ?_ ?_
  · refine s_aload_n 0 dX6_boardings_14 rfl rfl ?_
    refine s_getr (n := 135) (k' := 136) dX6_boardings_15 ly6 fl_X6_19 kd_0 rfl rfl rfl ?_
    refine s_Vv (rest := []) dX6_boardings_18 lk_X6_216 meX2_findLoads (ctX2_findLoads B fu s1) kd_136 ⟨rfl, by decide⟩ rfl rfl ⟨rfl, rfl, by decide, by decide⟩ (Nat.le_of_ble_eq_true rfl) (fun _ s2 => ?_)
    refine s_aload_n 0 dX6_boardings_21 rfl rfl ?_
    refine s_getr (n := 322) (k' := 323) dX6_boardings_22 ly6 fl_X6_26 kd_0 rfl rfl rfl ?_
    refine s_aload_n 0 dX6_boardings_25 rfl rfl ?_
    refine s_getr (n := 135) (k' := 136) dX6_boardings_26 ly6 fl_X6_19 kd_0 rfl rfl rfl ?_
    refine s_getd dX6_boardings_29 ly2 fl_X6_90 kd_136 rfl rfl (fun p1 hp1 => ?_)
    refine s_iload_n 1 dX6_boardings_32 rfl rfl ?_
    refine s_aald dX6_boardings_33 hp1 (fun p2 hp2 => ?_)
    refine s_getr (n := 9) (k' := p2 + 10) dX6_boardings_34 ly1 fl_X6_231 hp2 rfl rfl rfl ?_
    refine s_iload_n 2 dX6_boardings_37 rfl rfl ?_
    refine s_iald 8 dX6_boardings_38 (kdL10 hp2) (by decide) (fun x2 => ?_)
    refine s_i2l dX6_boardings_39 ?_
    refine s_Vv (rest := []) dX6_boardings_40 lk_X6_175 meX3_putOne (ctX3_putOne B fu (w32 x2) s2) kd_323 ⟨rfl, by decide⟩ rfl rfl ⟨rfl, rfl, by decide, by decide⟩ (Nat.le_of_ble_eq_true rfl) (fun _ s3 => ?_)
    refine s_aload_n 0 dX6_boardings_43 rfl rfl ?_
    refine s_getr (n := 135) (k' := 136) dX6_boardings_44 ly6 fl_X6_19 kd_0 rfl rfl rfl ?_
    refine s_getd dX6_boardings_47 ly2 fl_X6_90 kd_136 rfl rfl (fun p3 hp3 => ?_)
    refine s_iload_n 1 dX6_boardings_50 rfl rfl ?_
    refine s_aald dX6_boardings_51 hp3 (fun p4 hp4 => ?_)
    refine s_getr (n := 8) (k' := p4 + 9) dX6_boardings_52 ly1 fl_X6_234 hp4 rfl rfl rfl ?_
    refine s_iload_n 2 dX6_boardings_55 rfl rfl ?_
    refine s_iald 8 dX6_boardings_56 (kdL9 hp4) (by decide) (fun x3 => ?_)
    exact s_iret hX dX6_boardings_57
  · refine s_iconst dX6_boardings_12 ?_
    exact s_iret hX dX6_boardings_13
abbrev rmX6_total : Room := { frames := 5, cells := 0, slots := 0, locals := 116 }
abbrev SX6_total (B : Nat) (X : Ctx) := Sim cX6_total RX6 1 rmX6_total B X
set_option maxHeartbeats 4000000 in
set_option maxRecDepth 100000 in
theorem ctX6_total (B fu : Nat) (σ : Mem) : CtL yX6_total cX6_total 1 (some .long) rmX6_total B [rv B 0] σ (fX6_total fu σ) := by
  refine ctL_intro (own := RX6) (lv := [(0, rv B 0)]) (by decide +kernel) rfl (Nat.le_of_ble_eq_true rfl) rfl (fun X hX => ?_)
  unfold fX6_total
  refine s_aload_n 0 dX6_total_0 rfl rfl ?_
  refine s_getr (n := 135) (k' := 136) dX6_total_1 ly6 fl_X6_19 kd_0 rfl rfl rfl ?_
  refine s_Vv (rest := []) dX6_total_4 lk_X6_237 meX2_findTotal (ctX2_findTotal B fu σ) kd_136 ⟨rfl, by decide⟩ rfl rfl ⟨rfl, rfl, by decide, by decide⟩ (Nat.le_of_ble_eq_true rfl) (fun _ s1 => ?_)
  refine s_aload_n 0 dX6_total_7 rfl rfl ?_
  refine s_getr (n := 135) (k' := 136) dX6_total_8 ly6 fl_X6_19 kd_0 rfl rfl rfl ?_
  refine s_Vv (rest := []) dX6_total_11 lk_X6_240 meX2_spreadLoads (ctX2_spreadLoads B fu s1) kd_136 ⟨rfl, by decide⟩ rfl rfl ⟨rfl, rfl, by decide, by decide⟩ (Nat.le_of_ble_eq_true rfl) (fun _ s2 => ?_)
  refine s_aload_n 0 dX6_total_14 rfl rfl ?_
  refine s_getr (n := 322) (k' := 323) dX6_total_15 ly6 fl_X6_26 kd_0 rfl rfl rfl ?_
  refine s_aload_n 0 dX6_total_18 rfl rfl ?_
  refine s_getr (n := 135) (k' := 136) dX6_total_19 ly6 fl_X6_19 kd_0 rfl rfl rfl ?_
  refine s_getl dX6_total_22 ly2 fl_X6_243 kd_136 rfl ?_
  refine s_aload_n 0 dX6_total_25 rfl rfl ?_
  refine s_getr (n := 135) (k' := 136) dX6_total_26 ly6 fl_X6_19 kd_0 rfl rfl rfl ?_
  refine s_Vl (rest := [jv (s2 136 9), rv B 323]) dX6_total_29 lk_X6_247 meX2_ridingPoints (ctX2_ridingPoints B fu s2) kd_136 ⟨rfl, by decide⟩ rfl rfl ⟨rfl, rfl, by decide, by decide⟩ (Nat.le_of_ble_eq_true rfl) (fun x1 s3 => ?_)
  refine s_Vv (rest := []) dX6_total_32 lk_X6_167 meX3_putTwo (ctX3_putTwo B fu (s2 136 9) x1 s3) kd_323 ⟨rfl, by decide⟩ rfl rfl ⟨rfl, rfl, by decide, by decide⟩ (Nat.le_of_ble_eq_true rfl) (fun _ s4 => ?_)
  refine s_aload_n 0 dX6_total_35 rfl rfl ?_
  refine s_getr (n := 135) (k' := 136) dX6_total_36 ly6 fl_X6_19 kd_0 rfl rfl rfl ?_
  refine s_getl dX6_total_39 ly2 fl_X6_250 kd_136 rfl ?_
  exact s_lret hX dX6_total_42
abbrev rmX6_fullest : Room := { frames := 5, cells := 0, slots := 0, locals := 114 }
abbrev SX6_fullest (B : Nat) (X : Ctx) := Sim cX6_fullest RX6 5 rmX6_fullest B X
set_option maxHeartbeats 4000000 in
set_option maxRecDepth 100000 in
theorem fX6_fullest_L26_s {B fu : Nat} {X : Ctx} (hX : CxI .int B X) (k100 : Int → Int → Mem → PR) (hk100 : ∀ (x4 : Int) (x5 : Int) (s7 : Mem), SX6_fullest B X (k100 x4 x5 s7) s7 100 [(0, rv B 0), (1, iv x4), (2, iv x5)] []) : ∀ (n : Nat) (x1 : Int) (x2 : Int) (x3 : Int) (s6 : Mem), SX6_fullest B X (fX6_fullest_L26 fu k100 n x1 x2 x3 s6) s6 26 [(0, rv B 0), (1, iv x1), (2, iv x2), (3, iv x3)] [] := by
  intro n
  induction n with
  | zero => intro _ _ _ _; exact s_none
  | succ n ih =>
    intro x1 x2 x3 s2
    rw [fX6_fullest_L26]
    refine s_iload_n 3 dX6_fullest_26 rfl rfl ?_
    refine s_aload_n 0 dX6_fullest_27 rfl rfl ?_
    refine s_getr (n := 135) (k' := 136) dX6_fullest_28 ly6 fl_X6_19 kd_0 rfl rfl rfl ?_
    refine s_geti dX6_fullest_31 ly2 fl_X6_56 kd_136 rfl ?_
    refine s_icmp_ge (tgt := 100) dX6_fullest_34 (by decide) ?_ ?_
    · exact s_sub [0, 1, 2] rfl (hk100 x1 x2 s2)
    · refine s_aload_n 0 dX6_fullest_37 rfl rfl ?_
      refine s_getr (n := 135) (k' := 136) dX6_fullest_38 ly6 fl_X6_19 kd_0 rfl rfl rfl ?_
      refine s_getd dX6_fullest_41 ly2 fl_X6_90 kd_136 rfl rfl (fun p1 hp1 => ?_)
      refine s_iload_n 3 dX6_fullest_44 rfl rfl ?_
      refine s_aald dX6_fullest_45 hp1 (fun p2 hp2 => ?_)
      refine s_Vi (rest := []) dX6_fullest_46 lk_X6_225 meX1_fullestStep (ctX1_fullestStep B fu p2 hp2 s2) hp2 ⟨rfl, by decide⟩ rfl rfl ⟨rfl, rfl, by decide, by decide⟩ (Nat.le_of_ble_eq_true rfl) (fun x6 s3 => ?_)
      refine s_istore (lv' := [(4, iv x6), (0, rv B 0), (1, iv x1), (2, iv x2), (3, iv x3)]) dX6_fullest_49 (by decide) rfl ?_
      refine s_aload_n 1 dX6_fullest_51 rfl rfl ?_
      refine s_getr (n := 135) (k' := 136) dX6_fullest_52 ly6 fl_X6_19 kd_0 rfl rfl rfl ?_
      refine s_getd dX6_fullest_55 ly2 fl_X6_90 kd_136 rfl rfl (fun p3 hp3 => ?_)
      refine s_iload_n 4 dX6_fullest_58 rfl rfl ?_
      refine s_aald dX6_fullest_59 hp3 (fun p4 hp4 => ?_)
      refine s_getr (n := 7) (k' := p4 + 8) dX6_fullest_60 ly1 fl_X6_219 hp4 rfl rfl rfl ?_
      refine s_iload 0 dX6_fullest_63 rfl ?_
      refine s_iald 8 dX6_fullest_65 (kdL8 hp4) (by decide) (fun x7 => ?_)
      refine s_iload_n 3 dX6_fullest_66 rfl rfl ?_
      refine s_jn (fun (j1 : Int → Int → Mem → PR) => ∀ (x8 : Int) (x9 : Int) (s5 : Mem), SX6_fullest B X (j1 x8 x9 s5) s5 94 [(0, rv B 0), (1, iv x8), (2, iv x9), (3, iv x3)] []) ?_ (fun j1 hj1 => ?_)
      · intro x8 x9 s4
        refine s_iinc (lv' := [(3, iv (x3 + 1)), (0, rv B 0), (1, iv x8), (2, iv x9)]) 3 dX6_fullest_94 rfl (by decide) rfl ?_
        refine s_goto (tgt := 26) dX6_fullest_97 (by decide) ?_
        exact s_sub [1, 2, 3, 0] rfl (ih x8 x9 (x3 + 1) s4)
      · refine s_icmp_le (tgt := 94) dX6_fullest_67 (by decide) ?_ ?_
        · exact s_sub [1, 2, 3, 4] rfl (hj1 x1 x2 s3)
        · refine s_aload_n 1 dX6_fullest_70 rfl rfl ?_
          refine s_getr (n := 135) (k' := 136) dX6_fullest_71 ly6 fl_X6_19 kd_0 rfl rfl rfl ?_
          refine s_getd dX6_fullest_74 ly2 fl_X6_90 kd_136 rfl rfl (fun p5 hp5 => ?_)
          refine s_iload_n 4 dX6_fullest_77 rfl rfl ?_
          refine s_aald dX6_fullest_78 hp5 (fun p6 hp6 => ?_)
          refine s_getr (n := 7) (k' := p6 + 8) dX6_fullest_79 ly1 fl_X6_219 hp6 rfl rfl rfl ?_
          refine s_iload 0 dX6_fullest_82 rfl ?_
          refine s_iald 8 dX6_fullest_84 (kdL8 hp6) (by decide) (fun x10 => ?_)
          refine s_istore_n (lv' := [(2, iv x10), (4, iv x6), (0, rv B 0), (1, iv x1), (3, iv x3)]) dX6_fullest_85 rfl (by decide) rfl ?_
          refine s_bipush dX6_fullest_86 (by decide) ?_
          refine s_iload_n 4 dX6_fullest_88 rfl rfl ?_
          refine s_imul dX6_fullest_89 ?_
          refine s_iload 1 dX6_fullest_90 rfl ?_
          refine s_iadd dX6_fullest_92 ?_
          refine s_lti (fun x11 => ?_)
          refine s_istore_n (lv' := [(1, iv x11), (2, iv x10), (4, iv x6), (0, rv B 0), (3, iv x3)]) dX6_fullest_93 rfl (by decide) rfl ?_
          exact s_sub [3, 0, 1, 4] rfl (hj1 x11 x10 s3)
set_option maxHeartbeats 4000000 in
set_option maxRecDepth 100000 in
theorem ctX6_fullest (B fu : Nat) (σ : Mem) : CtI yX6_fullest cX6_fullest 5 (some .int) rmX6_fullest B [rv B 0] σ (fX6_fullest fu σ) := by
  refine ctI_intro (own := RX6) (lv := [(0, rv B 0)]) (by decide +kernel) rfl (Nat.le_of_ble_eq_true rfl) rfl (fun X hX => ?_)
  unfold fX6_fullest
  refine s_aload_n 0 dX6_fullest_0 rfl rfl ?_
  refine s_getr (n := 135) (k' := 136) dX6_fullest_1 ly6 fl_X6_19 kd_0 rfl rfl rfl ?_
  refine s_geti dX6_fullest_4 ly2 fl_X6_56 kd_136 rfl ?_
  refine s_if_ne (tgt := 13) dX6_fullest_7 (by decide) ?_ ?_
  · refine s_aload_n 0 dX6_fullest_13 rfl rfl ?_
    refine s_getr (n := 135) (k' := 136) dX6_fullest_14 ly6 fl_X6_19 kd_0 rfl rfl rfl ?_
    refine s_Vv (rest := []) dX6_fullest_17 lk_X6_216 meX2_findLoads (ctX2_findLoads B fu σ) kd_136 ⟨rfl, by decide⟩ rfl rfl ⟨rfl, rfl, by decide, by decide⟩ (Nat.le_of_ble_eq_true rfl) (fun _ s1 => ?_)
    refine s_iconst dX6_fullest_20 ?_
    refine s_istore_n (lv' := [(1, iv 0), (0, rv B 0)]) dX6_fullest_21 rfl (by decide) rfl ?_
    refine s_iconst dX6_fullest_22 ?_
    refine s_istore_n (lv' := [(2, iv (-1)), (1, iv 0), (0, rv B 0)]) dX6_fullest_23 rfl (by decide) rfl ?_
    refine s_iconst dX6_fullest_24 ?_
    refine s_istore_n (lv' := [(3, iv 0), (2, iv (-1)), (1, iv 0), (0, rv B 0)]) dX6_fullest_25 rfl (by decide) rfl ?_
    refine s_sub [3, 2, 1, 0] (lv' := [(0, rv B 0), (1, iv 0), (2, iv (-1)), (3, iv 0)]) rfl ?_
    refine fX6_fullest_L26_s hX _ ?_ fu 0 (-1) 0 s1
    intro x12 x13 s8
    refine s_aload_n 0 dX6_fullest_100 rfl rfl ?_
    refine s_getr (n := 322) (k' := 323) dX6_fullest_101 ly6 fl_X6_26 kd_0 rfl rfl rfl ?_
    refine s_iload_n 2 dX6_fullest_104 rfl rfl ?_
    refine s_i2l dX6_fullest_105 ?_
    refine s_Vv (rest := []) dX6_fullest_106 lk_X6_175 meX3_putOne (ctX3_putOne B fu (w32 x13) s8) kd_323 ⟨rfl, by decide⟩ rfl rfl ⟨rfl, rfl, by decide, by decide⟩ (Nat.le_of_ble_eq_true rfl) (fun _ s9 => ?_)
    refine s_iload_n 1 dX6_fullest_109 rfl rfl ?_
    exact s_iret hX dX6_fullest_110
  · refine s_bipush dX6_fullest_10 (by decide) ?_
    exact s_iret hX dX6_fullest_12
abbrev rmX6_changes : Room := { frames := 5, cells := 0, slots := 0, locals := 114 }
abbrev SX6_changes (B : Nat) (X : Ctx) := Sim cX6_changes RX6 1 rmX6_changes B X
set_option maxHeartbeats 4000000 in
set_option maxRecDepth 100000 in
theorem ctX6_changes (B fu : Nat) (σ : Mem) : CtI yX6_changes cX6_changes 1 (some .int) rmX6_changes B [rv B 0] σ (fX6_changes fu σ) := by
  refine ctI_intro (own := RX6) (lv := [(0, rv B 0)]) (by decide +kernel) rfl (Nat.le_of_ble_eq_true rfl) rfl (fun X hX => ?_)
  unfold fX6_changes
  refine s_aload_n 0 dX6_changes_0 rfl rfl ?_
  refine s_getr (n := 135) (k' := 136) dX6_changes_1 ly6 fl_X6_19 kd_0 rfl rfl rfl ?_
  refine s_Vv (rest := []) dX6_changes_4 lk_X6_216 meX2_findLoads (ctX2_findLoads B fu σ) kd_136 ⟨rfl, by decide⟩ rfl rfl ⟨rfl, rfl, by decide, by decide⟩ (Nat.le_of_ble_eq_true rfl) (fun _ s1 => ?_)
  refine s_aload_n 0 dX6_changes_7 rfl rfl ?_
  refine s_getr (n := 135) (k' := 136) dX6_changes_8 ly6 fl_X6_19 kd_0 rfl rfl rfl ?_
  refine s_Vi (rest := []) dX6_changes_11 lk_X6_253 meX2_changing (ctX2_changing B fu s1) kd_136 ⟨rfl, by decide⟩ rfl rfl ⟨rfl, rfl, by decide, by decide⟩ (Nat.le_of_ble_eq_true rfl) (fun x1 s2 => ?_)
  exact s_iret hX dX6_changes_14
abbrev rmX6_crowd : Room := { frames := 0, cells := 0, slots := 0, locals := 0 }
abbrev SX6_crowd (B : Nat) (X : Ctx) := Sim cX6_crowd RX6 3 rmX6_crowd B X
set_option maxHeartbeats 4000000 in
set_option maxRecDepth 100000 in
theorem ctX6_crowd (B fu : Nat) (a0 : Int) (σ : Mem) : CtI yX6_crowd cX6_crowd 3 (some .int) rmX6_crowd B [rv B 0, iv a0] σ (fX6_crowd fu a0 σ) := by
  refine ctI_intro (own := RX6) (lv := [(0, rv B 0), (1, iv a0)]) (by decide +kernel) rfl (Nat.le_of_ble_eq_true rfl) rfl (fun X hX => ?_)
  unfold fX6_crowd
  refine s_iload_n 1 dX6_crowd_0 rfl rfl ?_
  refine s_jn (fun (j1 : Mem → PR) => ∀ (s3 : Mem), SX6_crowd B X (j1 s3) s3 11 [] []) ?_ (fun j1 hj1 => ?_)
  · intro s1
    refine s_iconst dX6_crowd_11 ?_
    exact s_iret hX dX6_crowd_12
  · refine s_if_lt (tgt := 11) dX6_crowd_1 (by decide) ?_ ?_
    · exact s_sub [] rfl (hj1 σ)
    · refine s_iload_n 1 dX6_crowd_4 rfl rfl ?_
      refine s_sipush dX6_crowd_5 (by decide) ?_
      refine s_icmp_le (tgt := 13) dX6_crowd_8 (by decide) ?_ ?_
      · refine s_aload_n 0 dX6_crowd_13 rfl rfl ?_
        refine s_getr (n := 135) (k' := 136) dX6_crowd_14 ly6 fl_X6_19 kd_0 rfl rfl rfl ?_
        refine s_geti dX6_crowd_17 ly2 fl_X6_256 kd_136 rfl ?_
        refine s_lti (fun x1 => ?_)
        refine s_istore_n (lv' := [(2, iv x1), (0, rv B 0), (1, iv a0)]) dX6_crowd_20 rfl (by decide) rfl ?_
        refine s_aload_n 1 dX6_crowd_21 rfl rfl ?_
        refine s_getr (n := 135) (k' := 136) dX6_crowd_22 ly6 fl_X6_19 kd_0 rfl rfl rfl ?_
        refine s_iload_n 2 dX6_crowd_25 rfl rfl ?_
        refine s_puti dX6_crowd_26 ly2 ty2 fl_X6_256 kd_136 rfl po2_5 ⟨rfl, rfl, by decide⟩ (fun s2 => ?_)
        refine s_iload_n 0 dX6_crowd_29 rfl rfl ?_
        exact s_iret hX dX6_crowd_30
      · exact s_sub [] rfl (hj1 σ)
abbrev rmX6_seats : Room := { frames := 1, cells := 0, slots := 0, locals := 21 }
abbrev SX6_seats (B : Nat) (X : Ctx) := Sim cX6_seats RX6 4 rmX6_seats B X
set_option maxHeartbeats 4000000 in
set_option maxRecDepth 100000 in
theorem ctX6_seats (B fu : Nat) (a0 : Int) (a1 : Int) (σ : Mem) : CtI yX6_seats cX6_seats 4 (some .int) rmX6_seats B [rv B 0, iv a0, iv a1] σ (fX6_seats fu a0 a1 σ) := by
  refine ctI_intro (own := RX6) (lv := [(0, rv B 0), (1, iv a0), (2, iv a1)]) (by decide +kernel) rfl (Nat.le_of_ble_eq_true rfl) rfl (fun X hX => ?_)
  unfold fX6_seats
  refine s_aload_n 0 dX6_seats_0 rfl rfl ?_
  refine s_getr (n := 135) (k' := 136) dX6_seats_1 ly6 fl_X6_19 kd_0 rfl rfl rfl ?_
  refine s_iload_n 1 dX6_seats_4 rfl rfl ?_
  refine s_Vi (rest := []) dX6_seats_5 lk_X6_65 meX2_hasLine (ctX2_hasLine B fu a0 σ) kd_136 ⟨rfl, by decide⟩ rfl rfl ⟨rfl, rfl, by decide, by decide⟩ (Nat.le_of_ble_eq_true rfl) (fun x1 s1 => ?_)
  refine s_jn (fun (j1 : Mem → PR) => ∀ (s4 : Mem), SX6_seats B X (j1 s4) s4 23 [] []) ?_ (fun j1 hj1 => ?_)
  · intro s2
    refine s_iconst dX6_seats_23 ?_
    exact s_iret hX dX6_seats_24
  · refine s_if_eq (tgt := 23) dX6_seats_8 (by decide) ?_ ?_
    · exact s_sub [] rfl (hj1 s1)
    · refine s_iload_n 2 dX6_seats_11 rfl rfl ?_
      refine s_iconst dX6_seats_12 ?_
      refine s_icmp_lt (tgt := 23) dX6_seats_13 (by decide) ?_ ?_
      · exact s_sub [] rfl (hj1 s1)
      · refine s_iload_n 2 dX6_seats_16 rfl rfl ?_
        refine s_sipush dX6_seats_17 (by decide) ?_
        refine s_icmp_le (tgt := 25) dX6_seats_20 (by decide) ?_ ?_
        · refine s_aload_n 0 dX6_seats_25 rfl rfl ?_
          refine s_getr (n := 135) (k' := 136) dX6_seats_26 ly6 fl_X6_19 kd_0 rfl rfl rfl ?_
          refine s_getd dX6_seats_29 ly2 fl_X6_90 kd_136 rfl rfl (fun p1 hp1 => ?_)
          refine s_iload_n 1 dX6_seats_32 rfl rfl ?_
          refine s_aald dX6_seats_33 hp1 (fun p2 hp2 => ?_)
          refine s_geti dX6_seats_34 ly1 fl_X6_122 hp2 rfl ?_
          refine s_lti (fun x2 => ?_)
          refine s_istore_n (lv' := [(3, iv x2), (0, rv B 0), (1, iv a0), (2, iv a1)]) dX6_seats_37 rfl (by decide) rfl ?_
          refine s_aload_n 1 dX6_seats_38 rfl rfl ?_
          refine s_getr (n := 135) (k' := 136) dX6_seats_39 ly6 fl_X6_19 kd_0 rfl rfl rfl ?_
          refine s_getd dX6_seats_42 ly2 fl_X6_90 kd_136 rfl rfl (fun p3 hp3 => ?_)
          refine s_iload_n 2 dX6_seats_45 rfl rfl ?_
          refine s_aald dX6_seats_46 hp3 (fun p4 hp4 => ?_)
          refine s_iload_n 3 dX6_seats_47 rfl rfl ?_
          refine s_puti dX6_seats_48 ly1 ty1 fl_X6_122 hp4 rfl po1_2 ⟨rfl, rfl, by decide⟩ (fun s3 => ?_)
          refine s_iload_n 0 dX6_seats_51 rfl rfl ?_
          exact s_iret hX dX6_seats_52
        · exact s_sub [] rfl (hj1 s1)
abbrev rmX6_settles : Room := { frames := 6, cells := 0, slots := 0, locals := 136 }
abbrev SX6_settles (B : Nat) (X : Ctx) := Sim cX6_settles RX6 4 rmX6_settles B X
set_option maxHeartbeats 4000000 in
set_option maxRecDepth 100000 in
theorem fX6_settles_L17_s {B fu : Nat} {X : Ctx} (hX : CxI .int B X) (c1 : Int) (k36 : Int → Mem → PR) (hk36 : ∀ (x3 : Int) (s5 : Mem), SX6_settles B X (k36 x3 s5) s5 36 [(0, rv B 0), (2, iv x3)] []) : ∀ (n : Nat) (x1 : Int) (x2 : Int) (s4 : Mem), SX6_settles B X (fX6_settles_L17 fu c1 k36 n x1 x2 s4) s4 17 [(0, rv B 0), (1, iv c1), (2, iv x1), (3, iv x2)] [] := by
  intro n
  induction n with
  | zero => intro _ _ _; exact s_none
  | succ n ih =>
    intro x1 x2 s2
    rw [fX6_settles_L17]
    refine s_iload_n 3 dX6_settles_17 rfl rfl ?_
    refine s_iload_n 1 dX6_settles_18 rfl rfl ?_
    refine s_icmp_ge (tgt := 36) dX6_settles_19 (by decide) ?_ ?_
    · exact s_sub [0, 2] rfl (hk36 x1 s2)
    · refine s_aload_n 0 dX6_settles_22 rfl rfl ?_
      refine s_getr (n := 135) (k' := 136) dX6_settles_23 ly6 fl_X6_19 kd_0 rfl rfl rfl ?_
      refine s_Vi (rest := []) dX6_settles_26 lk_X6_259 meX2_settleOnce (ctX2_settleOnce B fu s2) kd_136 ⟨rfl, by decide⟩ rfl rfl ⟨rfl, rfl, by decide, by decide⟩ (Nat.le_of_ble_eq_true rfl) (fun x4 s3 => ?_)
      refine s_istore_n (lv' := [(2, iv x4), (0, rv B 0), (1, iv c1), (3, iv x2)]) dX6_settles_29 rfl (by decide) rfl ?_
      refine s_iinc (lv' := [(3, iv (x2 + 1)), (2, iv x4), (0, rv B 0), (1, iv c1)]) 3 dX6_settles_30 rfl (by decide) rfl ?_
      refine s_goto (tgt := 17) dX6_settles_33 (by decide) ?_
      exact s_sub [2, 3, 1, 0] rfl (ih x4 (x2 + 1) s3)
set_option maxHeartbeats 4000000 in
set_option maxRecDepth 100000 in
theorem ctX6_settles (B fu : Nat) (a0 : Int) (σ : Mem) : CtI yX6_settles cX6_settles 4 (some .int) rmX6_settles B [rv B 0, iv a0] σ (fX6_settles fu a0 σ) := by
  refine ctI_intro (own := RX6) (lv := [(0, rv B 0), (1, iv a0)]) (by decide +kernel) rfl (Nat.le_of_ble_eq_true rfl) rfl (fun X hX => ?_)
  unfold fX6_settles
  refine s_iload_n 1 dX6_settles_0 rfl rfl ?_
  refine s_iconst dX6_settles_1 ?_
  refine s_jn (fun (j1 : Mem → PR) => ∀ (s9 : Mem), SX6_settles B X (j1 s9) s9 11 [] []) ?_ (fun j1 hj1 => ?_)
  · intro s1
    refine s_iconst dX6_settles_11 ?_
    exact s_iret hX dX6_settles_12
  · refine s_icmp_lt (tgt := 11) dX6_settles_2 (by decide) ?_ ?_
    · exact s_sub [] rfl (hj1 σ)
    · refine s_iload_n 1 dX6_settles_5 rfl rfl ?_
      refine s_bipush dX6_settles_6 (by decide) ?_
      refine s_icmp_le (tgt := 13) dX6_settles_8 (by decide) ?_ ?_
      · refine s_iconst dX6_settles_13 ?_
        refine s_istore_n (lv' := [(2, iv 0), (0, rv B 0), (1, iv a0)]) dX6_settles_14 rfl (by decide) rfl ?_
        refine s_iconst dX6_settles_15 ?_
        refine s_istore_n (lv' := [(3, iv 0), (2, iv 0), (0, rv B 0), (1, iv a0)]) dX6_settles_16 rfl (by decide) rfl ?_
        refine s_sub [2, 3, 1, 0] (lv' := [(0, rv B 0), (1, iv a0), (2, iv 0), (3, iv 0)]) rfl ?_
        refine fX6_settles_L17_s hX a0 _ ?_ fu 0 0 σ
        intro x5 s6
        refine s_aload_n 0 dX6_settles_36 rfl rfl ?_
        refine s_getr (n := 135) (k' := 136) dX6_settles_37 ly6 fl_X6_19 kd_0 rfl rfl rfl ?_
        refine s_Vv (rest := []) dX6_settles_40 lk_X6_237 meX2_findTotal (ctX2_findTotal B fu s6) kd_136 ⟨rfl, by decide⟩ rfl rfl ⟨rfl, rfl, by decide, by decide⟩ (Nat.le_of_ble_eq_true rfl) (fun _ s7 => ?_)
        refine s_aload_n 0 dX6_settles_43 rfl rfl ?_
        refine s_getr (n := 322) (k' := 323) dX6_settles_44 ly6 fl_X6_26 kd_0 rfl rfl rfl ?_
        refine s_aload_n 0 dX6_settles_47 rfl rfl ?_
        refine s_getr (n := 135) (k' := 136) dX6_settles_48 ly6 fl_X6_19 kd_0 rfl rfl rfl ?_
        refine s_geti dX6_settles_51 ly2 fl_X6_262 kd_136 rfl ?_
        refine s_i2l dX6_settles_54 ?_
        refine s_aload_n 0 dX6_settles_55 rfl rfl ?_
        refine s_getr (n := 135) (k' := 136) dX6_settles_56 ly6 fl_X6_19 kd_0 rfl rfl rfl ?_
        refine s_getl dX6_settles_59 ly2 fl_X6_250 kd_136 rfl ?_
        refine s_Vv (rest := []) dX6_settles_62 lk_X6_167 meX3_putTwo (ctX3_putTwo B fu (w32 (s7 136 6)) (s7 136 8) s7) kd_323 ⟨rfl, by decide⟩ rfl rfl ⟨rfl, rfl, by decide, by decide⟩ (Nat.le_of_ble_eq_true rfl) (fun _ s8 => ?_)
        refine s_iload_n 1 dX6_settles_65 rfl rfl ?_
        exact s_iret hX dX6_settles_66
      · exact s_sub [] rfl (hj1 σ)
abbrev rmX6_balances : Room := { frames := 6, cells := 0, slots := 0, locals := 136 }
abbrev SX6_balances (B : Nat) (X : Ctx) := Sim cX6_balances RX6 5 rmX6_balances B X
set_option maxHeartbeats 4000000 in
set_option maxRecDepth 100000 in
theorem fX6_balances_L29_s {B fu : Nat} {X : Ctx} (hX : CxI .int B X) (c1 : Int) (c2 : Int) (k54 : Int → Int → Mem → PR) (hk54 : ∀ (x4 : Int) (x5 : Int) (s6 : Mem), SX6_balances B X (k54 x4 x5 s6) s6 54 [(0, rv B 0), (3, iv x4), (4, iv x5)] []) : ∀ (n : Nat) (x2 : Int) (x3 : Int) (s5 : Mem), SX6_balances B X (fX6_balances_L29 fu c1 c2 k54 n x2 x3 s5) s5 29 [(0, rv B 0), (1, iv c1), (2, iv c2), (3, iv x2), (4, iv x3)] [] := by
  intro n
  induction n with
  | zero => intro _ _ _; exact s_none
  | succ n ih =>
    intro x2 x3 s3
    rw [fX6_balances_L29]
    refine s_iload 4 dX6_balances_29 rfl ?_
    refine s_iload_n 2 dX6_balances_31 rfl rfl ?_
    refine s_icmp_ge (tgt := 54) dX6_balances_32 (by decide) ?_ ?_
    · exact s_sub [0, 3, 4] rfl (hk54 x2 x3 s3)
    · refine s_iload_n 3 dX6_balances_35 rfl rfl ?_
      refine s_iload_n 1 dX6_balances_36 rfl rfl ?_
      refine s_icmp_le (tgt := 54) dX6_balances_37 (by decide) ?_ ?_
      · exact s_sub [0, 3, 4] rfl (hk54 x2 x3 s3)
      · refine s_aload_n 0 dX6_balances_40 rfl rfl ?_
        refine s_getr (n := 135) (k' := 136) dX6_balances_41 ly6 fl_X6_19 kd_0 rfl rfl rfl ?_
        refine s_Vi (rest := []) dX6_balances_44 lk_X6_259 meX2_settleOnce (ctX2_settleOnce B fu s3) kd_136 ⟨rfl, by decide⟩ rfl rfl ⟨rfl, rfl, by decide, by decide⟩ (Nat.le_of_ble_eq_true rfl) (fun x6 s4 => ?_)
        refine s_istore_n (lv' := [(3, iv x6), (0, rv B 0), (1, iv c1), (2, iv c2), (4, iv x3)]) dX6_balances_47 rfl (by decide) rfl ?_
        refine s_iinc (lv' := [(4, iv (x3 + 1)), (3, iv x6), (0, rv B 0), (1, iv c1), (2, iv c2)]) 4 dX6_balances_48 rfl (by decide) rfl ?_
        refine s_goto (tgt := 29) dX6_balances_51 (by decide) ?_
        exact s_sub [2, 3, 4, 1, 0] rfl (ih x6 (x3 + 1) s4)
set_option maxHeartbeats 4000000 in
set_option maxRecDepth 100000 in
theorem ctX6_balances (B fu : Nat) (a0 : Int) (a1 : Int) (σ : Mem) : CtI yX6_balances cX6_balances 5 (some .int) rmX6_balances B [rv B 0, iv a0, iv a1] σ (fX6_balances fu a0 a1 σ) := by
  refine ctI_intro (own := RX6) (lv := [(0, rv B 0), (1, iv a0), (2, iv a1)]) (by decide +kernel) rfl (Nat.le_of_ble_eq_true rfl) rfl (fun X hX => ?_)
  unfold fX6_balances
  refine s_iload_n 1 dX6_balances_0 rfl rfl ?_
  refine s_jn (fun (j1 : Mem → PR) => ∀ (s9 : Mem), SX6_balances B X (j1 s9) s9 16 [] []) ?_ (fun j1 hj1 => ?_)
  · intro s1
    refine s_iconst dX6_balances_16 ?_
    exact s_iret hX dX6_balances_17
  · refine s_if_lt (tgt := 16) dX6_balances_1 (by decide) ?_ ?_
    · exact s_sub [] rfl (hj1 σ)
    · refine s_iload_n 2 dX6_balances_4 rfl rfl ?_
      refine s_iconst dX6_balances_5 ?_
      refine s_icmp_lt (tgt := 16) dX6_balances_6 (by decide) ?_ ?_
      · exact s_sub [] rfl (hj1 σ)
      · refine s_iload_n 2 dX6_balances_9 rfl rfl ?_
        refine s_sipush dX6_balances_10 (by decide) ?_
        refine s_icmp_le (tgt := 18) dX6_balances_13 (by decide) ?_ ?_
        · refine s_aload_n 0 dX6_balances_18 rfl rfl ?_
          refine s_getr (n := 135) (k' := 136) dX6_balances_19 ly6 fl_X6_19 kd_0 rfl rfl rfl ?_
          refine s_Vi (rest := []) dX6_balances_22 lk_X6_259 meX2_settleOnce (ctX2_settleOnce B fu σ) kd_136 ⟨rfl, by decide⟩ rfl rfl ⟨rfl, rfl, by decide, by decide⟩ (Nat.le_of_ble_eq_true rfl) (fun x1 s2 => ?_)
          refine s_istore_n (lv' := [(3, iv x1), (0, rv B 0), (1, iv a0), (2, iv a1)]) dX6_balances_25 rfl (by decide) rfl ?_
          refine s_iconst dX6_balances_26 ?_
          refine s_istore (lv' := [(4, iv 1), (3, iv x1), (0, rv B 0), (1, iv a0), (2, iv a1)]) dX6_balances_27 (by decide) rfl ?_
          refine s_sub [2, 3, 4, 1, 0] (lv' := [(0, rv B 0), (1, iv a0), (2, iv a1), (3, iv x1), (4, iv 1)]) rfl ?_
          refine fX6_balances_L29_s hX a0 a1 _ ?_ fu x1 1 s2
          intro x7 x8 s7
          refine s_aload_n 0 dX6_balances_54 rfl rfl ?_
          refine s_getr (n := 322) (k' := 323) dX6_balances_55 ly6 fl_X6_26 kd_0 rfl rfl rfl ?_
          refine s_iload_n 1 dX6_balances_58 rfl rfl ?_
          refine s_i2l dX6_balances_59 ?_
          refine s_aload_n 0 dX6_balances_60 rfl rfl ?_
          refine s_getr (n := 135) (k' := 136) dX6_balances_61 ly6 fl_X6_19 kd_0 rfl rfl rfl ?_
          refine s_geti dX6_balances_64 ly2 fl_X6_262 kd_136 rfl ?_
          refine s_i2l dX6_balances_67 ?_
          refine s_Vv (rest := []) dX6_balances_68 lk_X6_167 meX3_putTwo (ctX3_putTwo B fu (w32 x7) (w32 (s7 136 6)) s7) kd_323 ⟨rfl, by decide⟩ rfl rfl ⟨rfl, rfl, by decide, by decide⟩ (Nat.le_of_ble_eq_true rfl) (fun _ s8 => ?_)
          refine s_iload 2 dX6_balances_71 rfl ?_
          exact s_iret hX dX6_balances_73
        · exact s_sub [] rfl (hj1 σ)
abbrev rmX6_averaged : Room := { frames := 2, cells := 0, slots := 0, locals := 44 }
abbrev SX6_averaged (B : Nat) (X : Ctx) := Sim cX6_averaged RX6 3 rmX6_averaged B X
set_option maxHeartbeats 4000000 in
set_option maxRecDepth 100000 in
theorem ctX6_averaged (B fu : Nat) (a0 : Int) (a1 : Int) (σ : Mem) : CtI yX6_averaged cX6_averaged 3 (some .int) rmX6_averaged B [rv B 0, iv a0, iv a1] σ (fX6_averaged fu a0 a1 σ) := by
  refine ctI_intro (own := RX6) (lv := [(0, rv B 0), (1, iv a0), (2, iv a1)]) (by decide +kernel) rfl (Nat.le_of_ble_eq_true rfl) rfl (fun X hX => ?_)
  unfold fX6_averaged
  refine s_aload_n 0 dX6_averaged_0 rfl rfl ?_
  refine s_getr (n := 135) (k' := 136) dX6_averaged_1 ly6 fl_X6_19 kd_0 rfl rfl rfl ?_
  refine s_iload_n 1 dX6_averaged_4 rfl rfl ?_
  refine s_iload_n 2 dX6_averaged_5 rfl rfl ?_
  refine s_Vi (rest := []) dX6_averaged_6 lk_X6_186 meX2_hasStep (ctX2_hasStep B fu a0 a1 σ) kd_136 ⟨rfl, by decide⟩ rfl rfl ⟨rfl, rfl, by decide, by decide⟩ (Nat.le_of_ble_eq_true rfl) (fun x1 s1 => ?_)
  refine s_if_ne (tgt := 14) dX6_averaged_9 (by decide) ?_ ?_
  · refine s_aload_n 0 dX6_averaged_14 rfl rfl ?_
    refine s_getr (n := 322) (k' := 323) dX6_averaged_15 ly6 fl_X6_26 kd_0 rfl rfl rfl ?_
    refine s_aload_n 0 dX6_averaged_18 rfl rfl ?_
    refine s_getr (n := 135) (k' := 136) dX6_averaged_19 ly6 fl_X6_19 kd_0 rfl rfl rfl ?_
    refine s_getd dX6_averaged_22 ly2 fl_X6_90 kd_136 rfl rfl (fun p1 hp1 => ?_)
    refine s_iload_n 1 dX6_averaged_25 rfl rfl ?_
    refine s_aald dX6_averaged_26 hp1 (fun p2 hp2 => ?_)
    refine s_getr (n := 2) (k' := p2 + 3) dX6_averaged_27 ly1 fl_X6_150 hp2 rfl rfl rfl ?_
    refine s_iload_n 2 dX6_averaged_30 rfl rfl ?_
    refine s_iald 8 dX6_averaged_31 (kdL3 hp2) (by decide) (fun x2 => ?_)
    refine s_i2l dX6_averaged_32 ?_
    refine s_Vv (rest := []) dX6_averaged_33 lk_X6_175 meX3_putOne (ctX3_putOne B fu (w32 x2) s1) kd_323 ⟨rfl, by decide⟩ rfl rfl ⟨rfl, rfl, by decide, by decide⟩ (Nat.le_of_ble_eq_true rfl) (fun _ s2 => ?_)
    refine s_aload_n 0 dX6_averaged_36 rfl rfl ?_
    refine s_getr (n := 135) (k' := 136) dX6_averaged_37 ly6 fl_X6_19 kd_0 rfl rfl rfl ?_
    refine s_getd dX6_averaged_40 ly2 fl_X6_90 kd_136 rfl rfl (fun p3 hp3 => ?_)
    refine s_iload_n 1 dX6_averaged_43 rfl rfl ?_
    refine s_aald dX6_averaged_44 hp3 (fun p4 hp4 => ?_)
    refine s_getr (n := 3) (k' := p4 + 4) dX6_averaged_45 ly1 fl_X6_265 hp4 rfl rfl rfl ?_
    refine s_iload_n 2 dX6_averaged_48 rfl rfl ?_
    refine s_iald 8 dX6_averaged_49 (kdL4 hp4) (by decide) (fun x3 => ?_)
    exact s_iret hX dX6_averaged_50
  · refine s_iconst dX6_averaged_12 ?_
    exact s_iret hX dX6_averaged_13
abbrev rmX6_clears : Room := { frames := 1, cells := 0, slots := 0, locals := 22 }
abbrev SX6_clears (B : Nat) (X : Ctx) := Sim cX6_clears RX6 2 rmX6_clears B X
set_option maxHeartbeats 4000000 in
set_option maxRecDepth 100000 in
theorem ctX6_clears (B fu : Nat) (σ : Mem) : CtI yX6_clears cX6_clears 2 (some .int) rmX6_clears B [rv B 0] σ (fX6_clears fu σ) := by
  refine ctI_intro (own := RX6) (lv := [(0, rv B 0)]) (by decide +kernel) rfl (Nat.le_of_ble_eq_true rfl) rfl (fun X hX => ?_)
  unfold fX6_clears
  refine s_aload_n 0 dX6_clears_0 rfl rfl ?_
  refine s_getr (n := 135) (k' := 136) dX6_clears_1 ly6 fl_X6_19 kd_0 rfl rfl rfl ?_
  refine s_geti dX6_clears_4 ly2 fl_X6_262 kd_136 rfl ?_
  refine s_lti (fun x1 => ?_)
  refine s_istore_n (lv' := [(1, iv x1), (0, rv B 0)]) dX6_clears_7 rfl (by decide) rfl ?_
  refine s_aload_n 1 dX6_clears_8 rfl rfl ?_
  refine s_getr (n := 135) (k' := 136) dX6_clears_9 ly6 fl_X6_19 kd_0 rfl rfl rfl ?_
  refine s_Vv (rest := []) dX6_clears_12 lk_X6_268 meX2_forgetCrowds (ctX2_forgetCrowds B fu σ) kd_136 ⟨rfl, by decide⟩ rfl rfl ⟨rfl, rfl, by decide, by decide⟩ (Nat.le_of_ble_eq_true rfl) (fun _ s1 => ?_)
  refine s_iload_n 0 dX6_clears_15 rfl rfl ?_
  exact s_iret hX dX6_clears_16
abbrev rmX6_tellDifference : Room := { frames := 2, cells := 0, slots := 0, locals := 46 }
abbrev SX6_tellDifference (B : Nat) (X : Ctx) := Sim cX6_tellDifference RX6 3 rmX6_tellDifference B X
set_option maxHeartbeats 4000000 in
set_option maxRecDepth 100000 in
theorem ctX6_tellDifference (B fu : Nat) (a0 : Int) (σ : Mem) : CtL yX6_tellDifference cX6_tellDifference 3 (some .long) rmX6_tellDifference B [rv B 0, jv a0] σ (fX6_tellDifference fu a0 σ) := by
  refine ctL_intro (own := RX6) (lv := [(0, rv B 0), (1, jv a0)]) (by decide +kernel) rfl (Nat.le_of_ble_eq_true rfl) rfl (fun X hX => ?_)
  unfold fX6_tellDifference
  refine s_aload_n 0 dX6_tellDifference_0 rfl rfl ?_
  refine s_getr (n := 322) (k' := 323) dX6_tellDifference_1 ly6 fl_X6_26 kd_0 rfl rfl rfl ?_
  refine s_aload_n 0 dX6_tellDifference_4 rfl rfl ?_
  refine s_getr (n := 135) (k' := 136) dX6_tellDifference_5 ly6 fl_X6_19 kd_0 rfl rfl rfl ?_
  refine s_getl dX6_tellDifference_8 ly2 fl_X6_250 kd_136 rfl ?_
  refine s_lload_n 1 dX6_tellDifference_11 rfl rfl ?_
  refine s_lsub dX6_tellDifference_12 ?_
  refine s_aload_n 0 dX6_tellDifference_13 rfl rfl ?_
  refine s_getr (n := 135) (k' := 136) dX6_tellDifference_14 ly6 fl_X6_19 kd_0 rfl rfl rfl ?_
  refine s_getl dX6_tellDifference_17 ly2 fl_X6_243 kd_136 rfl ?_
  refine s_Vv (rest := []) dX6_tellDifference_20 lk_X6_167 meX3_putTwo (ctX3_putTwo B fu ((σ 136 8) - a0) (σ 136 9) σ) kd_323 ⟨rfl, by decide⟩ rfl rfl ⟨rfl, rfl, by decide, by decide⟩ (Nat.le_of_ble_eq_true rfl) (fun _ s1 => ?_)
  refine s_aload_n 0 dX6_tellDifference_23 rfl rfl ?_
  refine s_getr (n := 135) (k' := 136) dX6_tellDifference_24 ly6 fl_X6_19 kd_0 rfl rfl rfl ?_
  refine s_getl dX6_tellDifference_27 ly2 fl_X6_250 kd_136 rfl ?_
  exact s_lret hX dX6_tellDifference_30
abbrev rmX6_totalNow : Room := { frames := 5, cells := 0, slots := 0, locals := 116 }
abbrev SX6_totalNow (B : Nat) (X : Ctx) := Sim cX6_totalNow RX6 1 rmX6_totalNow B X
set_option maxHeartbeats 4000000 in
set_option maxRecDepth 100000 in
theorem ctX6_totalNow (B fu : Nat) (σ : Mem) : CtL yX6_totalNow cX6_totalNow 1 (some .long) rmX6_totalNow B [rv B 0] σ (fX6_totalNow fu σ) := by
  refine ctL_intro (own := RX6) (lv := [(0, rv B 0)]) (by decide +kernel) rfl (Nat.le_of_ble_eq_true rfl) rfl (fun X hX => ?_)
  unfold fX6_totalNow
  refine s_aload_n 0 dX6_totalNow_0 rfl rfl ?_
  refine s_getr (n := 135) (k' := 136) dX6_totalNow_1 ly6 fl_X6_19 kd_0 rfl rfl rfl ?_
  refine s_Vv (rest := []) dX6_totalNow_4 lk_X6_237 meX2_findTotal (ctX2_findTotal B fu σ) kd_136 ⟨rfl, by decide⟩ rfl rfl ⟨rfl, rfl, by decide, by decide⟩ (Nat.le_of_ble_eq_true rfl) (fun _ s1 => ?_)
  refine s_aload_n 0 dX6_totalNow_7 rfl rfl ?_
  refine s_getr (n := 135) (k' := 136) dX6_totalNow_8 ly6 fl_X6_19 kd_0 rfl rfl rfl ?_
  refine s_getl dX6_totalNow_11 ly2 fl_X6_250 kd_136 rfl ?_
  exact s_lret hX dX6_totalNow_14
abbrev rmX6_without : Room := { frames := 6, cells := 0, slots := 0, locals := 136 }
abbrev SX6_without (B : Nat) (X : Ctx) := Sim cX6_without RX6 5 rmX6_without B X
set_option maxHeartbeats 4000000 in
set_option maxRecDepth 100000 in
theorem ctX6_without (B fu : Nat) (a0 : Int) (σ : Mem) : CtL yX6_without cX6_without 5 (some .long) rmX6_without B [rv B 0, iv a0] σ (fX6_without fu a0 σ) := by
  refine ctL_intro (own := RX6) (lv := [(0, rv B 0), (1, iv a0)]) (by decide +kernel) rfl (Nat.le_of_ble_eq_true rfl) rfl (fun X hX => ?_)
  unfold fX6_without
  refine s_aload_n 0 dX6_without_0 rfl rfl ?_
  refine s_getr (n := 135) (k' := 136) dX6_without_1 ly6 fl_X6_19 kd_0 rfl rfl rfl ?_
  refine s_iload_n 1 dX6_without_4 rfl rfl ?_
  refine s_Vi (rest := []) dX6_without_5 lk_X6_65 meX2_hasLine (ctX2_hasLine B fu a0 σ) kd_136 ⟨rfl, by decide⟩ rfl rfl ⟨rfl, rfl, by decide, by decide⟩ (Nat.le_of_ble_eq_true rfl) (fun x1 s1 => ?_)
  refine s_if_ne (tgt := 15) dX6_without_8 (by decide) ?_ ?_
  · refine s_aload_n 0 dX6_without_15 rfl rfl ?_
    refine s_getr (n := 135) (k' := 136) dX6_without_16 ly6 fl_X6_19 kd_0 rfl rfl rfl ?_
    refine s_getd dX6_without_19 ly2 fl_X6_90 kd_136 rfl rfl (fun p1 hp1 => ?_)
    refine s_iload_n 1 dX6_without_22 rfl rfl ?_
    refine s_aald dX6_without_23 hp1 (fun p2 hp2 => ?_)
    refine s_astore_n (lv' := [(2, rv B p2), (0, rv B 0), (1, iv a0)]) dX6_without_24 rfl (by decide) rfl ?_
    refine s_aload_n 0 dX6_without_25 rfl rfl ?_
    refine s_geti dX6_without_26 ly1 fl_X6_94 hp2 rfl ?_
    refine s_if_eq (tgt := 36) dX6_without_29 (by decide) ?_ ?_
    · refine s_aload_n 1 dX6_without_36 rfl rfl ?_
      refine s_Vl (rest := []) dX6_without_37 lk_X6_275 meX6_totalNow (ctX6_totalNow B fu s1) kd_0 ⟨rfl, by decide⟩ rfl rfl ⟨rfl, rfl, by decide, by decide⟩ (Nat.le_of_ble_eq_true rfl) (fun x2 s2 => ?_)
      refine s_lstore_n (lv' := [(3, jv x2), (2, rv B p2), (0, rv B 0), (1, iv a0)]) dX6_without_40 rfl (by decide) rfl ?_
      refine s_aload_n 1 dX6_without_41 rfl rfl ?_
      refine s_iconst dX6_without_42 ?_
      refine s_putz dX6_without_43 ly1 ty1 fl_X6_94 hp2 rfl po1_4 ⟨rfl, rfl, by decide⟩ (fun s3 => ?_)
      refine s_aload_n 2 dX6_without_46 rfl rfl ?_
      refine s_getr (n := 135) (k' := 136) dX6_without_47 ly6 fl_X6_19 kd_0 rfl rfl rfl ?_
      refine s_Vv (rest := []) dX6_without_50 lk_X6_237 meX2_findTotal (ctX2_findTotal B fu s3) kd_136 ⟨rfl, by decide⟩ rfl rfl ⟨rfl, rfl, by decide, by decide⟩ (Nat.le_of_ble_eq_true rfl) (fun _ s4 => ?_)
      refine s_aload_n 1 dX6_without_53 rfl rfl ?_
      refine s_iconst dX6_without_54 ?_
      refine s_putz dX6_without_55 ly1 ty1 fl_X6_94 hp2 rfl po1_4 ⟨rfl, rfl, by decide⟩ (fun s5 => ?_)
      refine s_aload_n 2 dX6_without_58 rfl rfl ?_
      refine s_lload_n 0 dX6_without_59 rfl rfl ?_
      refine s_Vl (rest := []) dX6_without_60 lk_X6_278 meX6_tellDifference (ctX6_tellDifference B fu x2 s5) kd_0 ⟨rfl, by decide⟩ rfl rfl ⟨rfl, rfl, by decide, by decide⟩ (Nat.le_of_ble_eq_true rfl) (fun x3 s6 => ?_)
      exact s_lret hX dX6_without_63
    · refine s_ldc2 (x := -2) dX6_without_32 cl_X6_273 (by decide) ?_
      exact s_lret hX dX6_without_35
  · refine s_ldc2 (x := -1) dX6_without_11 cl_X6_271 (by decide) ?_
    exact s_lret hX dX6_without_14
abbrev rmX6_shut : Room := { frames := 6, cells := 0, slots := 0, locals := 136 }
abbrev SX6_shut (B : Nat) (X : Ctx) := Sim cX6_shut RX6 5 rmX6_shut B X
set_option maxHeartbeats 4000000 in
set_option maxRecDepth 100000 in
theorem ctX6_shut (B fu : Nat) (a0 : Int) (σ : Mem) : CtL yX6_shut cX6_shut 5 (some .long) rmX6_shut B [rv B 0, iv a0] σ (fX6_shut fu a0 σ) := by
  refine ctL_intro (own := RX6) (lv := [(0, rv B 0), (1, iv a0)]) (by decide +kernel) rfl (Nat.le_of_ble_eq_true rfl) rfl (fun X hX => ?_)
  unfold fX6_shut
  refine s_iload_n 1 dX6_shut_0 rfl rfl ?_
  refine s_Si (rest := []) dX6_shut_1 lk_X6_75 meX6_isStop (ctX6_isStop B fu a0 σ) rfl rfl ⟨rfl, rfl, by decide, by decide⟩ (Nat.le_of_ble_eq_true rfl) (fun x1 s1 => ?_)
  refine s_if_ne (tgt := 11) dX6_shut_4 (by decide) ?_ ?_
  · refine s_aload_n 0 dX6_shut_11 rfl rfl ?_
    refine s_getr (n := 135) (k' := 136) dX6_shut_12 ly6 fl_X6_19 kd_0 rfl rfl rfl ?_
    refine s_getr (n := 133) (k' := 270) dX6_shut_15 ly2 fl_X6_81 kd_136 rfl rfl rfl ?_
    refine s_iload_n 1 dX6_shut_18 rfl rfl ?_
    refine s_aals dX6_shut_19 (fun p1 hp1 => ?_)
    refine s_astore_n (lv' := [(2, rv B p1), (0, rv B 0), (1, iv a0)]) dX6_shut_20 rfl (by decide) rfl ?_
    refine s_aload_n 0 dX6_shut_21 rfl rfl ?_
    refine s_geti dX6_shut_22 ly4 fl_X6_110 hp1 rfl ?_
    refine s_if_eq (tgt := 32) dX6_shut_25 (by decide) ?_ ?_
    · refine s_aload_n 1 dX6_shut_32 rfl rfl ?_
      refine s_Vl (rest := []) dX6_shut_33 lk_X6_275 meX6_totalNow (ctX6_totalNow B fu s1) kd_0 ⟨rfl, by decide⟩ rfl rfl ⟨rfl, rfl, by decide, by decide⟩ (Nat.le_of_ble_eq_true rfl) (fun x2 s2 => ?_)
      refine s_lstore_n (lv' := [(3, jv x2), (2, rv B p1), (0, rv B 0), (1, iv a0)]) dX6_shut_36 rfl (by decide) rfl ?_
      refine s_aload_n 1 dX6_shut_37 rfl rfl ?_
      refine s_iconst dX6_shut_38 ?_
      refine s_putz dX6_shut_39 ly4 ty4 fl_X6_110 hp1 rfl po4_1 ⟨rfl, rfl, by decide⟩ (fun s3 => ?_)
      refine s_aload_n 2 dX6_shut_42 rfl rfl ?_
      refine s_getr (n := 135) (k' := 136) dX6_shut_43 ly6 fl_X6_19 kd_0 rfl rfl rfl ?_
      refine s_Vv (rest := []) dX6_shut_46 lk_X6_237 meX2_findTotal (ctX2_findTotal B fu s3) kd_136 ⟨rfl, by decide⟩ rfl rfl ⟨rfl, rfl, by decide, by decide⟩ (Nat.le_of_ble_eq_true rfl) (fun _ s4 => ?_)
      refine s_aload_n 1 dX6_shut_49 rfl rfl ?_
      refine s_iconst dX6_shut_50 ?_
      refine s_putz dX6_shut_51 ly4 ty4 fl_X6_110 hp1 rfl po4_1 ⟨rfl, rfl, by decide⟩ (fun s5 => ?_)
      refine s_aload_n 2 dX6_shut_54 rfl rfl ?_
      refine s_lload_n 0 dX6_shut_55 rfl rfl ?_
      refine s_Vl (rest := []) dX6_shut_56 lk_X6_278 meX6_tellDifference (ctX6_tellDifference B fu x2 s5) kd_0 ⟨rfl, by decide⟩ rfl rfl ⟨rfl, rfl, by decide, by decide⟩ (Nat.le_of_ble_eq_true rfl) (fun x3 s6 => ?_)
      exact s_lret hX dX6_shut_59
    · refine s_ldc2 (x := -2) dX6_shut_28 cl_X6_273 (by decide) ?_
      exact s_lret hX dX6_shut_31
  · refine s_ldc2 (x := -1) dX6_shut_7 cl_X6_271 (by decide) ?_
    exact s_lret hX dX6_shut_10
abbrev rmX6_canBeMore : Room := { frames := 0, cells := 0, slots := 0, locals := 0 }
abbrev SX6_canBeMore (B : Nat) (X : Ctx) := Sim cX6_canBeMore RX6 3 rmX6_canBeMore B X
set_option maxHeartbeats 4000000 in
set_option maxRecDepth 100000 in
theorem ctX6_canBeMore (B fu : Nat) (a0 : Nat) (ha0 : kd a0 = 1) (a1 : Int) (σ : Mem) : CtI yX6_canBeMore cX6_canBeMore 3 (some .boolean) rmX6_canBeMore B [rv B a0, iv a1] σ (fX6_canBeMore fu a0 a1 σ) := by
  refine ctI_intro (own := RX6) (lv := [(0, rv B a0), (1, iv a1)]) (by decide +kernel) rfl (Nat.le_of_ble_eq_true rfl) rfl (fun X hX => ?_)
  unfold fX6_canBeMore
  refine s_iload_n 1 dX6_canBeMore_0 rfl rfl ?_
  refine s_bipush dX6_canBeMore_1 (by decide) ?_
  refine s_jn (fun (j1 : Mem → PR) => ∀ (s6 : Mem), SX6_canBeMore B X (j1 s6) s6 12 [] []) ?_ (fun j1 hj1 => ?_)
  · intro s1
    refine s_iconst dX6_canBeMore_12 ?_
    exact s_zret hX dX6_canBeMore_13
  · refine s_icmp_lt (tgt := 12) dX6_canBeMore_3 (by decide) ?_ ?_
    · exact s_sub [] rfl (hj1 σ)
    · refine s_iload_n 1 dX6_canBeMore_6 rfl rfl ?_
      refine s_bipush dX6_canBeMore_7 (by decide) ?_
      refine s_icmp_le (tgt := 14) dX6_canBeMore_9 (by decide) ?_ ?_
      · refine s_aload_n 0 dX6_canBeMore_14 rfl rfl ?_
        refine s_geti dX6_canBeMore_15 ly1 fl_X6_116 ha0 rfl ?_
        refine s_iload_n 1 dX6_canBeMore_18 rfl rfl ?_
        refine s_iadd dX6_canBeMore_19 ?_
        refine s_lti (fun x1 => ?_)
        refine s_istore_n (lv' := [(2, iv x1), (0, rv B a0), (1, iv a1)]) dX6_canBeMore_20 rfl (by decide) rfl ?_
        refine s_iload_n 0 dX6_canBeMore_21 rfl rfl ?_
        refine s_iconst dX6_canBeMore_22 ?_
        refine s_jn (fun (j2 : Int → Mem → PR) => ∀ (x2 : Int) (s5 : Mem), SX6_canBeMore B X (j2 x2 s5) s5 37 [] [iv x2]) ?_ (fun j2 hj2 => ?_)
        · intro x2 s2
          exact s_zret hX dX6_canBeMore_37
        · refine s_jn (fun (j3 : Mem → PR) => ∀ (s4 : Mem), SX6_canBeMore B X (j3 s4) s4 36 [] []) ?_ (fun j3 hj3 => ?_)
          · intro s3
            refine s_iconst dX6_canBeMore_36 ?_
            exact hj2 0 s3
          · refine s_icmp_lt (tgt := 36) dX6_canBeMore_23 (by decide) ?_ ?_
            · exact s_sub [] rfl (hj3 σ)
            · refine s_iload_n 0 dX6_canBeMore_26 rfl rfl ?_
              refine s_bipush dX6_canBeMore_27 (by decide) ?_
              refine s_icmp_gt (tgt := 36) dX6_canBeMore_29 (by decide) ?_ ?_
              · exact s_sub [] rfl (hj3 σ)
              · refine s_iconst dX6_canBeMore_32 ?_
                refine s_goto (tgt := 37) dX6_canBeMore_33 (by decide) ?_
                exact s_sub [] rfl (hj2 1 σ)
      · exact s_sub [] rfl (hj1 σ)
abbrev rmX6_findTotalWithMore : Room := { frames := 5, cells := 0, slots := 0, locals := 116 }
abbrev SX6_findTotalWithMore (B : Nat) (X : Ctx) := Sim cX6_findTotalWithMore RX6 3 rmX6_findTotalWithMore B X
set_option maxHeartbeats 4000000 in
set_option maxRecDepth 100000 in
theorem ctX6_findTotalWithMore (B fu : Nat) (a0 : Nat) (ha0 : kd a0 = 1) (a1 : Int) (σ : Mem) : CtV yX6_findTotalWithMore cX6_findTotalWithMore 3 none rmX6_findTotalWithMore B [rv B 0, rv B a0, iv a1] σ (fX6_findTotalWithMore fu a0 a1 σ) := by
  refine ctV_intro (own := RX6) (lv := [(0, rv B 0), (1, rv B a0), (2, iv a1)]) (by decide +kernel) rfl (Nat.le_of_ble_eq_true rfl) rfl (fun X hX => ?_)
  unfold fX6_findTotalWithMore
  refine s_aload_n 1 dX6_findTotalWithMore_0 rfl rfl ?_
  refine s_dup dX6_findTotalWithMore_1 rfl ?_
  refine s_geti dX6_findTotalWithMore_2 ly1 fl_X6_116 ha0 rfl ?_
  refine s_iload_n 2 dX6_findTotalWithMore_5 rfl rfl ?_
  refine s_iadd dX6_findTotalWithMore_6 ?_
  refine s_puti dX6_findTotalWithMore_7 ly1 ty1 fl_X6_116 ha0 rfl po1_0 ⟨rfl, rfl, by decide⟩ (fun s1 => ?_)
  refine s_aload_n 0 dX6_findTotalWithMore_10 rfl rfl ?_
  refine s_getr (n := 135) (k' := 136) dX6_findTotalWithMore_11 ly6 fl_X6_19 kd_0 rfl rfl rfl ?_
  refine s_Vv (rest := []) dX6_findTotalWithMore_14 lk_X6_237 meX2_findTotal (ctX2_findTotal B fu s1) kd_136 ⟨rfl, by decide⟩ rfl rfl ⟨rfl, rfl, by decide, by decide⟩ (Nat.le_of_ble_eq_true rfl) (fun _ s2 => ?_)
  refine s_aload_n 1 dX6_findTotalWithMore_17 rfl rfl ?_
  refine s_dup dX6_findTotalWithMore_18 rfl ?_
  refine s_geti dX6_findTotalWithMore_19 ly1 fl_X6_116 ha0 rfl ?_
  refine s_iload_n 2 dX6_findTotalWithMore_22 rfl rfl ?_
  refine s_isub dX6_findTotalWithMore_23 ?_
  refine s_puti dX6_findTotalWithMore_24 ly1 ty1 fl_X6_116 ha0 rfl po1_0 ⟨rfl, rfl, by decide⟩ (fun s3 => ?_)
  exact s_vret hX dX6_findTotalWithMore_27
abbrev rmX6_more : Room := { frames := 6, cells := 0, slots := 0, locals := 138 }
abbrev SX6_more (B : Nat) (X : Ctx) := Sim cX6_more RX6 5 rmX6_more B X
set_option maxHeartbeats 4000000 in
set_option maxRecDepth 100000 in
theorem ctX6_more (B fu : Nat) (a0 : Int) (a1 : Int) (σ : Mem) : CtL yX6_more cX6_more 5 (some .long) rmX6_more B [rv B 0, iv a0, iv a1] σ (fX6_more fu a0 a1 σ) := by
  refine ctL_intro (own := RX6) (lv := [(0, rv B 0), (1, iv a0), (2, iv a1)]) (by decide +kernel) rfl (Nat.le_of_ble_eq_true rfl) rfl (fun X hX => ?_)
  unfold fX6_more
  refine s_aload_n 0 dX6_more_0 rfl rfl ?_
  refine s_getr (n := 135) (k' := 136) dX6_more_1 ly6 fl_X6_19 kd_0 rfl rfl rfl ?_
  refine s_iload_n 1 dX6_more_4 rfl rfl ?_
  refine s_Vi (rest := []) dX6_more_5 lk_X6_65 meX2_hasLine (ctX2_hasLine B fu a0 σ) kd_136 ⟨rfl, by decide⟩ rfl rfl ⟨rfl, rfl, by decide, by decide⟩ (Nat.le_of_ble_eq_true rfl) (fun x1 s1 => ?_)
  refine s_jn (fun (j1 : Mem → PR) => ∀ (s7 : Mem), SX6_more B X (j1 s7) s7 27 [] []) ?_ (fun j1 hj1 => ?_)
  · intro s2
    refine s_ldc2 (x := -1) dX6_more_27 cl_X6_271 (by decide) ?_
    exact s_lret hX dX6_more_30
  · refine s_if_eq (tgt := 27) dX6_more_8 (by decide) ?_ ?_
    · exact s_sub [] rfl (hj1 s1)
    · refine s_aload_n 0 dX6_more_11 rfl rfl ?_
      refine s_getr (n := 135) (k' := 136) dX6_more_12 ly6 fl_X6_19 kd_0 rfl rfl rfl ?_
      refine s_getd dX6_more_15 ly2 fl_X6_90 kd_136 rfl rfl (fun p1 hp1 => ?_)
      refine s_iload_n 1 dX6_more_18 rfl rfl ?_
      refine s_aald dX6_more_19 hp1 (fun p2 hp2 => ?_)
      refine s_iload_n 2 dX6_more_20 rfl rfl ?_
      refine s_Si (rest := []) dX6_more_21 lk_X6_282 meX6_canBeMore (ctX6_canBeMore B fu p2 hp2 a1 s1) rfl rfl ⟨rfl, rfl, by decide, by decide⟩ (Nat.le_of_ble_eq_true rfl) (fun x2 s3 => ?_)
      refine s_if_ne (tgt := 31) dX6_more_24 (by decide) ?_ ?_
      · refine s_aload_n 0 dX6_more_31 rfl rfl ?_
        refine s_Vl (rest := []) dX6_more_32 lk_X6_275 meX6_totalNow (ctX6_totalNow B fu s3) kd_0 ⟨rfl, by decide⟩ rfl rfl ⟨rfl, rfl, by decide, by decide⟩ (Nat.le_of_ble_eq_true rfl) (fun x3 s4 => ?_)
        refine s_lstore_n (lv' := [(3, jv x3), (0, rv B 0), (1, iv a0), (2, iv a1)]) dX6_more_35 rfl (by decide) rfl ?_
        refine s_aload_n 1 dX6_more_36 rfl rfl ?_
        refine s_aload_n 1 dX6_more_37 rfl rfl ?_
        refine s_getr (n := 135) (k' := 136) dX6_more_38 ly6 fl_X6_19 kd_0 rfl rfl rfl ?_
        refine s_getd dX6_more_41 ly2 fl_X6_90 kd_136 rfl rfl (fun p3 hp3 => ?_)
        refine s_iload_n 2 dX6_more_44 rfl rfl ?_
        refine s_aald dX6_more_45 hp3 (fun p4 hp4 => ?_)
        refine s_iload_n 3 dX6_more_46 rfl rfl ?_
        refine s_Vv (rest := []) dX6_more_47 lk_X6_286 meX6_findTotalWithMore (ctX6_findTotalWithMore B fu p4 hp4 a1 s4) kd_0 ⟨rfl, by decide⟩ rfl rfl ⟨rfl, rfl, by decide, by decide⟩ (Nat.le_of_ble_eq_true rfl) (fun _ s5 => ?_)
        refine s_aload_n 1 dX6_more_50 rfl rfl ?_
        refine s_lload_n 0 dX6_more_51 rfl rfl ?_
        refine s_Vl (rest := []) dX6_more_52 lk_X6_278 meX6_tellDifference (ctX6_tellDifference B fu x3 s5) kd_0 ⟨rfl, by decide⟩ rfl rfl ⟨rfl, rfl, by decide, by decide⟩ (Nat.le_of_ble_eq_true rfl) (fun x4 s6 => ?_)
        exact s_lret hX dX6_more_55
      · exact s_sub [] rfl (hj1 s3)
abbrev rmX6_best : Room := { frames := 6, cells := 0, slots := 0, locals := 138 }
abbrev SX6_best (B : Nat) (X : Ctx) := Sim cX6_best RX6 8 rmX6_best B X
set_option maxHeartbeats 4000000 in
set_option maxRecDepth 100000 in
theorem fX6_best_L27_s {B fu : Nat} {X : Ctx} (hX : CxI .int B X) (c1 : Int) (c2 : Int) (k125 : Int → Int → Mem → PR) (hk125 : ∀ (x5 : Int) (x6 : Int) (s11 : Mem), SX6_best B X (k125 x5 x6 s11) s11 125 [(0, rv B 0), (2, jv c2), (4, jv x5), (6, iv x6)] []) : ∀ (n : Nat) (x2 : Int) (x3 : Int) (x4 : Int) (s10 : Mem), SX6_best B X (fX6_best_L27 fu c1 c2 k125 n x2 x3 x4 s10) s10 27 [(0, rv B 0), (1, iv c1), (2, jv c2), (4, jv x2), (6, iv x3), (7, iv x4)] [] := by
  intro n
  induction n with
  | zero => intro _ _ _ _; exact s_none
  | succ n ih =>
    intro x2 x3 x4 s3
    rw [fX6_best_L27]
    refine s_iload 5 dX6_best_27 rfl ?_
    refine s_aload_n 0 dX6_best_29 rfl rfl ?_
    refine s_getr (n := 135) (k' := 136) dX6_best_30 ly6 fl_X6_19 kd_0 rfl rfl rfl ?_
    refine s_geti dX6_best_33 ly2 fl_X6_56 kd_136 rfl ?_
    refine s_icmp_ge (tgt := 125) dX6_best_36 (by decide) ?_ ?_
    · exact s_sub [0, 2, 3, 4] rfl (hk125 x2 x3 s3)
    · refine s_aload_n 0 dX6_best_39 rfl rfl ?_
      refine s_getr (n := 135) (k' := 136) dX6_best_40 ly6 fl_X6_19 kd_0 rfl rfl rfl ?_
      refine s_getd dX6_best_43 ly2 fl_X6_90 kd_136 rfl rfl (fun p1 hp1 => ?_)
      refine s_iload 5 dX6_best_46 rfl ?_
      refine s_aald dX6_best_48 hp1 (fun p2 hp2 => ?_)
      refine s_geti dX6_best_49 ly1 fl_X6_94 hp2 rfl ?_
      refine s_jn (fun (j2 : Int → Int → Mem → PR) => ∀ (x7 : Int) (x8 : Int) (s9 : Mem), SX6_best B X (j2 x7 x8 s9) s9 119 [(0, rv B 0), (1, iv c1), (2, jv c2), (4, jv x7), (6, iv x8), (7, iv x4)] []) ?_ (fun j2 hj2 => ?_)
      · intro x7 x8 s4
        refine s_iinc (lv' := [(7, iv (x4 + 1)), (0, rv B 0), (1, iv c1), (2, jv c2), (4, jv x7), (6, iv x8)]) 5 dX6_best_119 rfl (by decide) rfl ?_
        refine s_goto (tgt := 27) dX6_best_122 (by decide) ?_
        exact s_sub [1, 2, 3, 4, 5, 0] rfl (ih x7 x8 (x4 + 1) s4)
      · refine s_if_ne (tgt := 119) dX6_best_52 (by decide) ?_ ?_
        · exact hj2 x2 x3 s3
        · refine s_aload_n 0 dX6_best_55 rfl rfl ?_
          refine s_getr (n := 135) (k' := 136) dX6_best_56 ly6 fl_X6_19 kd_0 rfl rfl rfl ?_
          refine s_getd dX6_best_59 ly2 fl_X6_90 kd_136 rfl rfl (fun p3 hp3 => ?_)
          refine s_iload 5 dX6_best_62 rfl ?_
          refine s_aald dX6_best_64 hp3 (fun p4 hp4 => ?_)
          refine s_iload_n 1 dX6_best_65 rfl rfl ?_
          refine s_Si (rest := []) dX6_best_66 lk_X6_282 meX6_canBeMore (ctX6_canBeMore B fu p4 hp4 c1 s3) rfl rfl ⟨rfl, rfl, by decide, by decide⟩ (Nat.le_of_ble_eq_true rfl) (fun x9 s5 => ?_)
          refine s_if_eq (tgt := 119) dX6_best_69 (by decide) ?_ ?_
          · exact hj2 x2 x3 s5
          · refine s_aload_n 0 dX6_best_72 rfl rfl ?_
            refine s_aload_n 0 dX6_best_73 rfl rfl ?_
            refine s_getr (n := 135) (k' := 136) dX6_best_74 ly6 fl_X6_19 kd_0 rfl rfl rfl ?_
            refine s_getd dX6_best_77 ly2 fl_X6_90 kd_136 rfl rfl (fun p5 hp5 => ?_)
            refine s_iload 5 dX6_best_80 rfl ?_
            refine s_aald dX6_best_82 hp5 (fun p6 hp6 => ?_)
            refine s_iload_n 1 dX6_best_83 rfl rfl ?_
            refine s_Vv (rest := []) dX6_best_84 lk_X6_286 meX6_findTotalWithMore (ctX6_findTotalWithMore B fu p6 hp6 c1 s5) kd_0 ⟨rfl, by decide⟩ rfl rfl ⟨rfl, rfl, by decide, by decide⟩ (Nat.le_of_ble_eq_true rfl) (fun _ s6 => ?_)
            refine s_iload 4 dX6_best_87 rfl ?_
            refine s_iconst dX6_best_89 ?_
            refine s_jn (fun (j3 : Mem → PR) => ∀ (s8 : Mem), SX6_best B X (j3 s8) s8 106 [(0, rv B 0), (1, iv c1), (2, jv c2), (7, iv x4)] []) ?_ (fun j3 hj3 => ?_)
            · intro s7
              refine s_iload 3 dX6_best_106 rfl ?_
              refine s_istore (lv' := [(6, iv x4), (0, rv B 0), (1, iv c1), (2, jv c2), (7, iv x4)]) dX6_best_108 (by decide) rfl ?_
              refine s_aload_n 1 dX6_best_110 rfl rfl ?_
              refine s_getr (n := 135) (k' := 136) dX6_best_111 ly6 fl_X6_19 kd_0 rfl rfl rfl ?_
              refine s_getl dX6_best_114 ly2 fl_X6_250 kd_136 rfl ?_
              refine s_ltl (fun x10 => ?_)
              refine s_lstore (lv' := [(4, jv x10), (6, iv x4), (0, rv B 0), (1, iv c1), (2, jv c2), (7, iv x4)]) dX6_best_117 (by decide) rfl ?_
              exact s_sub [2, 3, 4, 0, 1, 5] rfl (hj2 x10 x4 s7)
            · refine s_icmp_eq (tgt := 106) dX6_best_90 (by decide) ?_ ?_
              · exact s_sub [0, 1, 2, 5] rfl (hj3 s6)
              · refine s_aload_n 0 dX6_best_93 rfl rfl ?_
                refine s_getr (n := 135) (k' := 136) dX6_best_94 ly6 fl_X6_19 kd_0 rfl rfl rfl ?_
                refine s_getl dX6_best_97 ly2 fl_X6_250 kd_136 rfl ?_
                refine s_lload 3 dX6_best_100 rfl ?_
                refine s_lif_ge (tgt := 119) dX6_best_102 dX6_best_103 (by decide) ?_ ?_
                · exact hj2 x2 x3 s6
                · exact s_sub [0, 1, 2, 5] rfl (hj3 s6)
set_option maxHeartbeats 4000000 in
set_option maxRecDepth 100000 in
theorem ctX6_best (B fu : Nat) (a0 : Int) (σ : Mem) : CtI yX6_best cX6_best 8 (some .int) rmX6_best B [rv B 0, iv a0] σ (fX6_best fu a0 σ) := by
  refine ctI_intro (own := RX6) (lv := [(0, rv B 0), (1, iv a0)]) (by decide +kernel) rfl (Nat.le_of_ble_eq_true rfl) rfl (fun X hX => ?_)
  unfold fX6_best
  refine s_iload_n 1 dX6_best_0 rfl rfl ?_
  refine s_iconst dX6_best_1 ?_
  refine s_jn (fun (j1 : Mem → PR) => ∀ (s14 : Mem), SX6_best B X (j1 s14) s14 11 [] []) ?_ (fun j1 hj1 => ?_)
  · intro s1
    refine s_iconst dX6_best_11 ?_
    exact s_iret hX dX6_best_12
  · refine s_icmp_lt (tgt := 11) dX6_best_2 (by decide) ?_ ?_
    · exact s_sub [] rfl (hj1 σ)
    · refine s_iload_n 1 dX6_best_5 rfl rfl ?_
      refine s_bipush dX6_best_6 (by decide) ?_
      refine s_icmp_le (tgt := 13) dX6_best_8 (by decide) ?_ ?_
      · refine s_aload_n 0 dX6_best_13 rfl rfl ?_
        refine s_Vl (rest := []) dX6_best_14 lk_X6_275 meX6_totalNow (ctX6_totalNow B fu σ) kd_0 ⟨rfl, by decide⟩ rfl rfl ⟨rfl, rfl, by decide, by decide⟩ (Nat.le_of_ble_eq_true rfl) (fun x1 s2 => ?_)
        refine s_lstore_n (lv' := [(2, jv x1), (0, rv B 0), (1, iv a0)]) dX6_best_17 rfl (by decide) rfl ?_
        refine s_lconst (x := 0) dX6_best_18 (by decide) ?_
        refine s_lstore (lv' := [(4, jv 0), (2, jv x1), (0, rv B 0), (1, iv a0)]) dX6_best_19 (by decide) rfl ?_
        refine s_iconst dX6_best_21 ?_
        refine s_istore (lv' := [(6, iv (-1)), (4, jv 0), (2, jv x1), (0, rv B 0), (1, iv a0)]) dX6_best_22 (by decide) rfl ?_
        refine s_iconst dX6_best_24 ?_
        refine s_istore (lv' := [(7, iv 0), (6, iv (-1)), (4, jv 0), (2, jv x1), (0, rv B 0), (1, iv a0)]) dX6_best_25 (by decide) rfl ?_
        refine s_sub [4, 5, 3, 2, 1, 0] (lv' := [(0, rv B 0), (1, iv a0), (2, jv x1), (4, jv 0), (6, iv (-1)), (7, iv 0)]) rfl ?_
        refine fX6_best_L27_s hX a0 x1 _ ?_ fu 0 (-1) 0 s2
        intro x11 x12 s12
        refine s_iload 3 dX6_best_125 rfl ?_
        refine s_iconst dX6_best_127 ?_
        refine s_icmp_ne (tgt := 134) dX6_best_128 (by decide) ?_ ?_
        · refine s_aload_n 0 dX6_best_134 rfl rfl ?_
          refine s_getr (n := 322) (k' := 323) dX6_best_135 ly6 fl_X6_26 kd_0 rfl rfl rfl ?_
          refine s_lload 2 dX6_best_138 rfl ?_
          refine s_lload_n 1 dX6_best_140 rfl rfl ?_
          refine s_lsub dX6_best_141 ?_
          refine s_Vv (rest := []) dX6_best_142 lk_X6_175 meX3_putOne (ctX3_putOne B fu (x11 - x1) s12) kd_323 ⟨rfl, by decide⟩ rfl rfl ⟨rfl, rfl, by decide, by decide⟩ (Nat.le_of_ble_eq_true rfl) (fun _ s13 => ?_)
          refine s_iload 3 dX6_best_145 rfl ?_
          exact s_iret hX dX6_best_147
        · refine s_bipush dX6_best_131 (by decide) ?_
          exact s_iret hX dX6_best_133
      · exact s_sub [] rfl (hj1 σ)
abbrev rmX6_findTotalTowards : Room := { frames := 5, cells := 0, slots := 0, locals := 116 }
abbrev SX6_findTotalTowards (B : Nat) (X : Ctx) := Sim cX6_findTotalTowards RX6 3 rmX6_findTotalTowards B X
set_option maxHeartbeats 4000000 in
set_option maxRecDepth 100000 in
theorem ctX6_findTotalTowards (B fu : Nat) (a0 : Int) (σ : Mem) : CtV yX6_findTotalTowards cX6_findTotalTowards 3 none rmX6_findTotalTowards B [rv B 0, iv a0] σ (fX6_findTotalTowards fu a0 σ) := by
  refine ctV_intro (own := RX6) (lv := [(0, rv B 0), (1, iv a0)]) (by decide +kernel) rfl (Nat.le_of_ble_eq_true rfl) rfl (fun X hX => ?_)
  unfold fX6_findTotalTowards
  refine s_aload_n 0 dX6_findTotalTowards_0 rfl rfl ?_
  refine s_getr (n := 135) (k' := 136) dX6_findTotalTowards_1 ly6 fl_X6_19 kd_0 rfl rfl rfl ?_
  refine s_geti dX6_findTotalTowards_4 ly2 fl_X6_78 kd_136 rfl ?_
  refine s_lti (fun x1 => ?_)
  refine s_istore_n (lv' := [(2, iv x1), (0, rv B 0), (1, iv a0)]) dX6_findTotalTowards_7 rfl (by decide) rfl ?_
  refine s_aload_n 1 dX6_findTotalTowards_8 rfl rfl ?_
  refine s_getr (n := 135) (k' := 136) dX6_findTotalTowards_9 ly6 fl_X6_19 kd_0 rfl rfl rfl ?_
  refine s_iload_n 2 dX6_findTotalTowards_12 rfl rfl ?_
  refine s_puti dX6_findTotalTowards_13 ly2 ty2 fl_X6_78 kd_136 rfl po2_4 ⟨rfl, rfl, by decide⟩ (fun s1 => ?_)
  refine s_aload_n 1 dX6_findTotalTowards_16 rfl rfl ?_
  refine s_getr (n := 135) (k' := 136) dX6_findTotalTowards_17 ly6 fl_X6_19 kd_0 rfl rfl rfl ?_
  refine s_Vv (rest := []) dX6_findTotalTowards_20 lk_X6_237 meX2_findTotal (ctX2_findTotal B fu s1) kd_136 ⟨rfl, by decide⟩ rfl rfl ⟨rfl, rfl, by decide, by decide⟩ (Nat.le_of_ble_eq_true rfl) (fun _ s2 => ?_)
  refine s_aload_n 1 dX6_findTotalTowards_23 rfl rfl ?_
  refine s_getr (n := 135) (k' := 136) dX6_findTotalTowards_24 ly6 fl_X6_19 kd_0 rfl rfl rfl ?_
  refine s_iload_n 0 dX6_findTotalTowards_27 rfl rfl ?_
  refine s_puti dX6_findTotalTowards_28 ly2 ty2 fl_X6_78 kd_136 rfl po2_4 ⟨rfl, rfl, by decide⟩ (fun s3 => ?_)
  exact s_vret hX dX6_findTotalTowards_31
abbrev rmX6_towards : Room := { frames := 6, cells := 0, slots := 0, locals := 138 }
abbrev SX6_towards (B : Nat) (X : Ctx) := Sim cX6_towards RX6 4 rmX6_towards B X
set_option maxHeartbeats 4000000 in
set_option maxRecDepth 100000 in
theorem ctX6_towards (B fu : Nat) (a0 : Int) (σ : Mem) : CtL yX6_towards cX6_towards 4 (some .long) rmX6_towards B [rv B 0, iv a0] σ (fX6_towards fu a0 σ) := by
  refine ctL_intro (own := RX6) (lv := [(0, rv B 0), (1, iv a0)]) (by decide +kernel) rfl (Nat.le_of_ble_eq_true rfl) rfl (fun X hX => ?_)
  unfold fX6_towards
  refine s_iload_n 1 dX6_towards_0 rfl rfl ?_
  refine s_Si (rest := []) dX6_towards_1 lk_X6_75 meX6_isStop (ctX6_isStop B fu a0 σ) rfl rfl ⟨rfl, rfl, by decide, by decide⟩ (Nat.le_of_ble_eq_true rfl) (fun x1 s1 => ?_)
  refine s_if_ne (tgt := 11) dX6_towards_4 (by decide) ?_ ?_
  · refine s_aload_n 0 dX6_towards_11 rfl rfl ?_
    refine s_Vl (rest := []) dX6_towards_12 lk_X6_275 meX6_totalNow (ctX6_totalNow B fu s1) kd_0 ⟨rfl, by decide⟩ rfl rfl ⟨rfl, rfl, by decide, by decide⟩ (Nat.le_of_ble_eq_true rfl) (fun x2 s2 => ?_)
    refine s_lstore_n (lv' := [(2, jv x2), (0, rv B 0), (1, iv a0)]) dX6_towards_15 rfl (by decide) rfl ?_
    refine s_aload_n 1 dX6_towards_16 rfl rfl ?_
    refine s_iload_n 2 dX6_towards_17 rfl rfl ?_
    refine s_Vv (rest := []) dX6_towards_18 lk_X6_290 meX6_findTotalTowards (ctX6_findTotalTowards B fu a0 s2) kd_0 ⟨rfl, by decide⟩ rfl rfl ⟨rfl, rfl, by decide, by decide⟩ (Nat.le_of_ble_eq_true rfl) (fun _ s3 => ?_)
    refine s_aload_n 1 dX6_towards_21 rfl rfl ?_
    refine s_lload_n 0 dX6_towards_22 rfl rfl ?_
    refine s_Vl (rest := []) dX6_towards_23 lk_X6_278 meX6_tellDifference (ctX6_tellDifference B fu x2 s3) kd_0 ⟨rfl, by decide⟩ rfl rfl ⟨rfl, rfl, by decide, by decide⟩ (Nat.le_of_ble_eq_true rfl) (fun x3 s4 => ?_)
    exact s_lret hX dX6_towards_26
  · refine s_ldc2 (x := -1) dX6_towards_7 cl_X6_271 (by decide) ?_
    exact s_lret hX dX6_towards_10
abbrev rmX6_slower : Room := { frames := 6, cells := 0, slots := 0, locals := 136 }
abbrev SX6_slower (B : Nat) (X : Ctx) := Sim cX6_slower RX6 10 rmX6_slower B X
set_option maxHeartbeats 4000000 in
set_option maxRecDepth 100000 in
theorem ctX6_slower (B fu : Nat) (a0 : Int) (a1 : Int) (a2 : Int) (σ : Mem) : CtL yX6_slower cX6_slower 10 (some .long) rmX6_slower B [rv B 0, iv a0, iv a1, iv a2] σ (fX6_slower fu a0 a1 a2 σ) := by
  refine ctL_intro (own := RX6) (lv := [(0, rv B 0), (1, iv a0), (2, iv a1), (3, iv a2)]) (by decide +kernel) rfl (Nat.le_of_ble_eq_true rfl) rfl (fun X hX => ?_)
  unfold fX6_slower
  refine s_aload_n 0 dX6_slower_0 rfl rfl ?_
  refine s_getr (n := 135) (k' := 136) dX6_slower_1 ly6 fl_X6_19 kd_0 rfl rfl rfl ?_
  refine s_iload_n 1 dX6_slower_4 rfl rfl ?_
  refine s_iload_n 2 dX6_slower_5 rfl rfl ?_
  refine s_Vi (rest := []) dX6_slower_6 lk_X6_186 meX2_hasStep (ctX2_hasStep B fu a0 a1 σ) kd_136 ⟨rfl, by decide⟩ rfl rfl ⟨rfl, rfl, by decide, by decide⟩ (Nat.le_of_ble_eq_true rfl) (fun x1 s1 => ?_)
  refine s_if_ne (tgt := 16) dX6_slower_9 (by decide) ?_ ?_
  · refine s_aload_n 0 dX6_slower_16 rfl rfl ?_
    refine s_getr (n := 135) (k' := 136) dX6_slower_17 ly6 fl_X6_19 kd_0 rfl rfl rfl ?_
    refine s_getd dX6_slower_20 ly2 fl_X6_90 kd_136 rfl rfl (fun p1 hp1 => ?_)
    refine s_iload_n 1 dX6_slower_23 rfl rfl ?_
    refine s_aald dX6_slower_24 hp1 (fun p2 hp2 => ?_)
    refine s_astore (lv' := [(4, rv B p2), (0, rv B 0), (1, iv a0), (2, iv a1), (3, iv a2)]) dX6_slower_25 (by decide) rfl ?_
    refine s_aload 0 dX6_slower_27 rfl ?_
    refine s_getr (n := 1) (k' := p2 + 2) dX6_slower_29 ly1 fl_X6_142 hp2 rfl rfl rfl ?_
    refine s_iload_n 3 dX6_slower_32 rfl rfl ?_
    refine s_iald 8 dX6_slower_33 (kdL2 hp2) (by decide) (fun x2 => ?_)
    refine s_istore (lv' := [(5, iv x2), (4, rv B p2), (0, rv B 0), (1, iv a0), (2, iv a1), (3, iv a2)]) dX6_slower_34 (by decide) rfl ?_
    refine s_iload 0 dX6_slower_36 rfl ?_
    refine s_i2l dX6_slower_38 ?_
    refine s_iload_n 5 dX6_slower_39 rfl rfl ?_
    refine s_i2l dX6_slower_40 ?_
    refine s_ladd dX6_slower_41 ?_
    refine s_ltl (fun x3 => ?_)
    refine s_lstore (lv' := [(6, jv x3), (5, iv x2), (4, rv B p2), (0, rv B 0), (1, iv a0), (2, iv a1), (3, iv a2)]) dX6_slower_42 (by decide) rfl ?_
    refine s_lload 0 dX6_slower_44 rfl ?_
    refine s_lconst (x := 1) dX6_slower_46 (by decide) ?_
    refine s_jn (fun (j1 : Mem → PR) => ∀ (s8 : Mem), SX6_slower B X (j1 s8) s8 60 [] []) ?_ (fun j1 hj1 => ?_)
    · intro s2
      refine s_ldc2 (x := -1) dX6_slower_60 cl_X6_271 (by decide) ?_
      exact s_lret hX dX6_slower_63
    · refine s_lif_lt (tgt := 60) dX6_slower_47 dX6_slower_48 (by decide) ?_ ?_
      · exact s_sub [] rfl (hj1 s1)
      · refine s_lload 0 dX6_slower_51 rfl ?_
        refine s_ldc2 (x := 99) dX6_slower_53 cl_X6_293 (by decide) ?_
        refine s_lif_le (tgt := 64) dX6_slower_56 dX6_slower_57 (by decide) ?_ ?_
        · refine s_aload_n 3 dX6_slower_64 rfl rfl ?_
          refine s_Vl (rest := []) dX6_slower_65 lk_X6_275 meX6_totalNow (ctX6_totalNow B fu s1) kd_0 ⟨rfl, by decide⟩ rfl rfl ⟨rfl, rfl, by decide, by decide⟩ (Nat.le_of_ble_eq_true rfl) (fun x4 s3 => ?_)
          refine s_lstore (lv' := [(8, jv x4), (6, jv x3), (5, iv x2), (4, rv B p2), (0, rv B 0), (1, iv a0), (2, iv a1), (3, iv a2)]) dX6_slower_68 (by decide) rfl ?_
          refine s_aload 3 dX6_slower_70 rfl ?_
          refine s_getr (n := 1) (k' := p2 + 2) dX6_slower_72 ly1 fl_X6_142 hp2 rfl rfl rfl ?_
          refine s_iload_n 6 dX6_slower_75 rfl rfl ?_
          refine s_lload 1 dX6_slower_76 rfl ?_
          refine s_l2i dX6_slower_78 ?_
          refine s_iast 8 dX6_slower_79 (kdL2 hp2) (by decide) (fun s4 => ?_)
          refine s_aload_n 4 dX6_slower_80 rfl rfl ?_
          refine s_getr (n := 135) (k' := 136) dX6_slower_81 ly6 fl_X6_19 kd_0 rfl rfl rfl ?_
          refine s_Vv (rest := []) dX6_slower_84 lk_X6_237 meX2_findTotal (ctX2_findTotal B fu s4) kd_136 ⟨rfl, by decide⟩ rfl rfl ⟨rfl, rfl, by decide, by decide⟩ (Nat.le_of_ble_eq_true rfl) (fun _ s5 => ?_)
          refine s_aload 3 dX6_slower_87 rfl ?_
          refine s_getr (n := 1) (k' := p2 + 2) dX6_slower_89 ly1 fl_X6_142 hp2 rfl rfl rfl ?_
          refine s_iload_n 6 dX6_slower_92 rfl rfl ?_
          refine s_iload 2 dX6_slower_93 rfl ?_
          refine s_iast 8 dX6_slower_95 (kdL2 hp2) (by decide) (fun s6 => ?_)
          refine s_aload_n 4 dX6_slower_96 rfl rfl ?_
          refine s_lload 0 dX6_slower_97 rfl ?_
          refine s_Vl (rest := []) dX6_slower_99 lk_X6_278 meX6_tellDifference (ctX6_tellDifference B fu x4 s6) kd_0 ⟨rfl, by decide⟩ rfl rfl ⟨rfl, rfl, by decide, by decide⟩ (Nat.le_of_ble_eq_true rfl) (fun x5 s7 => ?_)
          exact s_lret hX dX6_slower_102
        · exact s_sub [] rfl (hj1 s1)
  · refine s_ldc2 (x := -1) dX6_slower_12 cl_X6_271 (by decide) ?_
    exact s_lret hX dX6_slower_15
abbrev rmX6_skips : Room := { frames := 6, cells := 0, slots := 0, locals := 138 }
abbrev SX6_skips (B : Nat) (X : Ctx) := Sim cX6_skips RX6 5 rmX6_skips B X
set_option maxHeartbeats 4000000 in
set_option maxRecDepth 100000 in
theorem ctX6_skips (B fu : Nat) (a0 : Int) (a1 : Int) (σ : Mem) : CtL yX6_skips cX6_skips 5 (some .long) rmX6_skips B [rv B 0, iv a0, iv a1] σ (fX6_skips fu a0 a1 σ) := by
  refine ctL_intro (own := RX6) (lv := [(0, rv B 0), (1, iv a0), (2, iv a1)]) (by decide +kernel) rfl (Nat.le_of_ble_eq_true rfl) rfl (fun X hX => ?_)
  unfold fX6_skips
  refine s_aload_n 0 dX6_skips_0 rfl rfl ?_
  refine s_getr (n := 135) (k' := 136) dX6_skips_1 ly6 fl_X6_19 kd_0 rfl rfl rfl ?_
  refine s_iload_n 1 dX6_skips_4 rfl rfl ?_
  refine s_iload_n 2 dX6_skips_5 rfl rfl ?_
  refine s_Vi (rest := []) dX6_skips_6 lk_X6_186 meX2_hasStep (ctX2_hasStep B fu a0 a1 σ) kd_136 ⟨rfl, by decide⟩ rfl rfl ⟨rfl, rfl, by decide, by decide⟩ (Nat.le_of_ble_eq_true rfl) (fun x1 s1 => ?_)
  refine s_jn (fun (j1 : Mem → PR) => ∀ (s6 : Mem), SX6_skips B X (j1 s6) s6 16 [] []) ?_ (fun j1 hj1 => ?_)
  · intro s2
    refine s_ldc2 (x := -1) dX6_skips_16 cl_X6_271 (by decide) ?_
    exact s_lret hX dX6_skips_19
  · refine s_if_eq (tgt := 16) dX6_skips_9 (by decide) ?_ ?_
    · exact s_sub [] rfl (hj1 s1)
    · refine s_iload_n 2 dX6_skips_12 rfl rfl ?_
      refine s_if_ne (tgt := 20) dX6_skips_13 (by decide) ?_ ?_
      · refine s_aload_n 0 dX6_skips_20 rfl rfl ?_
        refine s_Vl (rest := []) dX6_skips_21 lk_X6_275 meX6_totalNow (ctX6_totalNow B fu s1) kd_0 ⟨rfl, by decide⟩ rfl rfl ⟨rfl, rfl, by decide, by decide⟩ (Nat.le_of_ble_eq_true rfl) (fun x2 s3 => ?_)
        refine s_lstore_n (lv' := [(3, jv x2), (0, rv B 0), (1, iv a0), (2, iv a1)]) dX6_skips_24 rfl (by decide) rfl ?_
        refine s_aload_n 1 dX6_skips_25 rfl rfl ?_
        refine s_getr (n := 135) (k' := 136) dX6_skips_26 ly6 fl_X6_19 kd_0 rfl rfl rfl ?_
        refine s_aload_n 1 dX6_skips_29 rfl rfl ?_
        refine s_getr (n := 135) (k' := 136) dX6_skips_30 ly6 fl_X6_19 kd_0 rfl rfl rfl ?_
        refine s_getd dX6_skips_33 ly2 fl_X6_90 kd_136 rfl rfl (fun p1 hp1 => ?_)
        refine s_iload_n 2 dX6_skips_36 rfl rfl ?_
        refine s_aald dX6_skips_37 hp1 (fun p2 hp2 => ?_)
        refine s_iload_n 3 dX6_skips_38 rfl rfl ?_
        refine s_Vv (rest := []) dX6_skips_39 lk_X6_295 meX2_findTotalSkipping (ctX2_findTotalSkipping B fu p2 hp2 a1 s3) kd_136 ⟨rfl, by decide⟩ rfl rfl ⟨rfl, rfl, by decide, by decide⟩ (Nat.le_of_ble_eq_true rfl) (fun _ s4 => ?_)
        refine s_aload_n 1 dX6_skips_42 rfl rfl ?_
        refine s_lload_n 0 dX6_skips_43 rfl rfl ?_
        refine s_Vl (rest := []) dX6_skips_44 lk_X6_278 meX6_tellDifference (ctX6_tellDifference B fu x2 s4) kd_0 ⟨rfl, by decide⟩ rfl rfl ⟨rfl, rfl, by decide, by decide⟩ (Nat.le_of_ble_eq_true rfl) (fun x3 s5 => ?_)
        exact s_lret hX dX6_skips_47
      · exact s_sub [] rfl (hj1 s1)
abbrev rmX6_uses : Room := { frames := 5, cells := 0, slots := 0, locals := 117 }
abbrev SX6_uses (B : Nat) (X : Ctx) := Sim cX6_uses RX6 3 rmX6_uses B X
set_option maxHeartbeats 4000000 in
set_option maxRecDepth 100000 in
theorem ctX6_uses (B fu : Nat) (a0 : Int) (a1 : Int) (σ : Mem) : CtI yX6_uses cX6_uses 3 (some .int) rmX6_uses B [rv B 0, iv a0, iv a1] σ (fX6_uses fu a0 a1 σ) := by
  refine ctI_intro (own := RX6) (lv := [(0, rv B 0), (1, iv a0), (2, iv a1)]) (by decide +kernel) rfl (Nat.le_of_ble_eq_true rfl) rfl (fun X hX => ?_)
  unfold fX6_uses
  refine s_iload_n 1 dX6_uses_0 rfl rfl ?_
  refine s_Si (rest := []) dX6_uses_1 lk_X6_75 meX6_isStop (ctX6_isStop B fu a0 σ) rfl rfl ⟨rfl, rfl, by decide, by decide⟩ (Nat.le_of_ble_eq_true rfl) (fun x1 s1 => ?_)
  refine s_jn (fun (j1 : Mem → PR) => ∀ (s9 : Mem), SX6_uses B X (j1 s9) s9 18 [] []) ?_ (fun j1 hj1 => ?_)
  · intro s2
    refine s_iconst dX6_uses_18 ?_
    exact s_iret hX dX6_uses_19
  · refine s_if_eq (tgt := 18) dX6_uses_4 (by decide) ?_ ?_
    · exact s_sub [] rfl (hj1 s1)
    · refine s_aload_n 0 dX6_uses_7 rfl rfl ?_
      refine s_getr (n := 135) (k' := 136) dX6_uses_8 ly6 fl_X6_19 kd_0 rfl rfl rfl ?_
      refine s_iload_n 2 dX6_uses_11 rfl rfl ?_
      refine s_Vi (rest := []) dX6_uses_12 lk_X6_65 meX2_hasLine (ctX2_hasLine B fu a1 s1) kd_136 ⟨rfl, by decide⟩ rfl rfl ⟨rfl, rfl, by decide, by decide⟩ (Nat.le_of_ble_eq_true rfl) (fun x2 s3 => ?_)
      refine s_if_ne (tgt := 20) dX6_uses_15 (by decide) ?_ ?_
      · refine s_aload_n 0 dX6_uses_20 rfl rfl ?_
        refine s_getr (n := 135) (k' := 136) dX6_uses_21 ly6 fl_X6_19 kd_0 rfl rfl rfl ?_
        refine s_Vv (rest := []) dX6_uses_24 lk_X6_155 meX2_findCosts (ctX2_findCosts B fu s3) kd_136 ⟨rfl, by decide⟩ rfl rfl ⟨rfl, rfl, by decide, by decide⟩ (Nat.le_of_ble_eq_true rfl) (fun _ s4 => ?_)
        refine s_aload_n 0 dX6_uses_27 rfl rfl ?_
        refine s_getr (n := 135) (k' := 136) dX6_uses_28 ly6 fl_X6_19 kd_0 rfl rfl rfl ?_
        refine s_getr (n := 133) (k' := 270) dX6_uses_31 ly2 fl_X6_81 kd_136 rfl rfl rfl ?_
        refine s_iload_n 1 dX6_uses_34 rfl rfl ?_
        refine s_aals dX6_uses_35 (fun p1 hp1 => ?_)
        refine s_geti dX6_uses_36 ly4 fl_X6_158 hp1 rfl ?_
        refine s_iconst dX6_uses_39 ?_
        refine s_icmp_ne (tgt := 46) dX6_uses_40 (by decide) ?_ ?_
        · refine s_aload_n 0 dX6_uses_46 rfl rfl ?_
          refine s_getr (n := 135) (k' := 136) dX6_uses_47 ly6 fl_X6_19 kd_0 rfl rfl rfl ?_
          refine s_iload_n 1 dX6_uses_50 rfl rfl ?_
          refine s_sipush dX6_uses_51 (by decide) ?_
          refine s_Vv (rest := []) dX6_uses_54 lk_X6_298 meX2_spreadLoadsOf (ctX2_spreadLoadsOf B fu a0 1000 s4) kd_136 ⟨rfl, by decide⟩ rfl rfl ⟨rfl, rfl, by decide, by decide⟩ (Nat.le_of_ble_eq_true rfl) (fun _ s5 => ?_)
          refine s_aload_n 0 dX6_uses_57 rfl rfl ?_
          refine s_getr (n := 322) (k' := 323) dX6_uses_58 ly6 fl_X6_26 kd_0 rfl rfl rfl ?_
          refine s_aload_n 0 dX6_uses_61 rfl rfl ?_
          refine s_getr (n := 135) (k' := 136) dX6_uses_62 ly6 fl_X6_19 kd_0 rfl rfl rfl ?_
          refine s_Vi (rest := [rv B 323]) dX6_uses_65 lk_X6_253 meX2_changing (ctX2_changing B fu s5) kd_136 ⟨rfl, by decide⟩ rfl rfl ⟨rfl, rfl, by decide, by decide⟩ (Nat.le_of_ble_eq_true rfl) (fun x3 s6 => ?_)
          refine s_i2l dX6_uses_68 ?_
          refine s_Vv (rest := []) dX6_uses_69 lk_X6_175 meX3_putOne (ctX3_putOne B fu (w32 x3) s6) kd_323 ⟨rfl, by decide⟩ rfl rfl ⟨rfl, rfl, by decide, by decide⟩ (Nat.le_of_ble_eq_true rfl) (fun _ s7 => ?_)
          refine s_aload_n 0 dX6_uses_72 rfl rfl ?_
          refine s_getr (n := 135) (k' := 136) dX6_uses_73 ly6 fl_X6_19 kd_0 rfl rfl rfl ?_
          refine s_getd dX6_uses_76 ly2 fl_X6_90 kd_136 rfl rfl (fun p2 hp2 => ?_)
          refine s_iload_n 2 dX6_uses_79 rfl rfl ?_
          refine s_aald dX6_uses_80 hp2 (fun p3 hp3 => ?_)
          refine s_Vi (rest := []) dX6_uses_81 lk_X6_228 meX1_allEntering (ctX1_allEntering B fu p3 hp3 s7) hp3 ⟨rfl, by decide⟩ rfl rfl ⟨rfl, rfl, by decide, by decide⟩ (Nat.le_of_ble_eq_true rfl) (fun x4 s8 => ?_)
          exact s_iret hX dX6_uses_84
        · refine s_bipush dX6_uses_43 (by decide) ?_
          exact s_iret hX dX6_uses_45
      · exact s_sub [] rfl (hj1 s3)
abbrev rmX6_centre : Room := { frames := 6, cells := 0, slots := 0, locals := 138 }
abbrev SX6_centre (B : Nat) (X : Ctx) := Sim cX6_centre RX6 9 rmX6_centre B X
set_option maxHeartbeats 4000000 in
set_option maxRecDepth 100000 in
theorem fX6_centre_L10_s {B fu : Nat} {X : Ctx} (hX : CxI .int B X) (k115 : Int → Int → Int → Mem → PR) (hk115 : ∀ (x5 : Int) (x6 : Int) (x7 : Int) (s14 : Mem), SX6_centre B X (k115 x5 x6 x7 s14) s14 115 [(0, rv B 0), (1, iv x5), (2, jv x6), (4, jv x7)] []) : ∀ (n : Nat) (x1 : Int) (x2 : Int) (x3 : Int) (x4 : Int) (s13 : Mem), SX6_centre B X (fX6_centre_L10 fu k115 n x1 x2 x3 x4 s13) s13 10 [(0, rv B 0), (1, iv x1), (2, jv x2), (4, jv x3), (6, iv x4)] [] := by
  intro n
  induction n with
  | zero => intro _ _ _ _ _; exact s_none
  | succ n ih =>
    intro x1 x2 x3 x4 s1
    rw [fX6_centre_L10]
    refine s_iload 4 dX6_centre_10 rfl ?_
    refine s_bipush dX6_centre_12 (by decide) ?_
    refine s_icmp_ge (tgt := 115) dX6_centre_14 (by decide) ?_ ?_
    · exact s_sub [0, 1, 2, 3] rfl (hk115 x1 x2 x3 s1)
    · refine s_aload_n 0 dX6_centre_17 rfl rfl ?_
      refine s_iload 4 dX6_centre_18 rfl ?_
      refine s_Vv (rest := []) dX6_centre_20 lk_X6_290 meX6_findTotalTowards (ctX6_findTotalTowards B fu x4 s1) kd_0 ⟨rfl, by decide⟩ rfl rfl ⟨rfl, rfl, by decide, by decide⟩ (Nat.le_of_ble_eq_true rfl) (fun _ s2 => ?_)
      refine s_aload_n 0 dX6_centre_23 rfl rfl ?_
      refine s_getr (n := 135) (k' := 136) dX6_centre_24 ly6 fl_X6_19 kd_0 rfl rfl rfl ?_
      refine s_getl dX6_centre_27 ly2 fl_X6_243 kd_136 rfl ?_
      refine s_lload_n 2 dX6_centre_30 rfl rfl ?_
      refine s_jn (fun (j1 : Int → Mem → PR) => ∀ (x8 : Int) (s12 : Mem), SX6_centre B X (j1 x8 s12) s12 40 [(0, rv B 0), (1, iv x1), (2, jv x2), (4, jv x3), (6, iv x4)] [iv x8]) ?_ (fun j1 hj1 => ?_)
      · intro x8 s3
        refine s_istore (lv' := [(7, iv x8), (0, rv B 0), (1, iv x1), (2, jv x2), (4, jv x3), (6, iv x4)]) dX6_centre_40 (by decide) rfl ?_
        refine s_aload_n 1 dX6_centre_42 rfl rfl ?_
        refine s_getr (n := 135) (k' := 136) dX6_centre_43 ly6 fl_X6_19 kd_0 rfl rfl rfl ?_
        refine s_getl dX6_centre_46 ly2 fl_X6_243 kd_136 rfl ?_
        refine s_lload_n 3 dX6_centre_49 rfl rfl ?_
        refine s_jn (fun (j2 : Int → Mem → PR) => ∀ (x9 : Int) (s11 : Mem), SX6_centre B X (j2 x9 s11) s11 72 [(0, rv B 0), (1, iv x1), (2, jv x2), (4, jv x3), (6, iv x4), (7, iv x8)] [iv x9]) ?_ (fun j2 hj2 => ?_)
        · intro x9 s4
          refine s_istore (lv' := [(8, iv x9), (0, rv B 0), (1, iv x1), (2, jv x2), (4, jv x3), (6, iv x4), (7, iv x8)]) dX6_centre_72 (by decide) rfl ?_
          refine s_iload 5 dX6_centre_74 rfl ?_
          refine s_jn (fun (j3 : Int → Int → Int → Mem → PR) => ∀ (x10 : Int) (x11 : Int) (x12 : Int) (s8 : Mem), SX6_centre B X (j3 x10 x11 x12 s8) s8 109 [(0, rv B 0), (1, iv x10), (2, jv x11), (4, jv x12), (6, iv x4)] []) ?_ (fun j3 hj3 => ?_)
          · intro x10 x11 x12 s5
            refine s_iinc (lv' := [(6, iv (x4 + 1)), (0, rv B 0), (1, iv x10), (2, jv x11), (4, jv x12)]) 4 dX6_centre_109 rfl (by decide) rfl ?_
            refine s_goto (tgt := 10) dX6_centre_112 (by decide) ?_
            exact s_sub [1, 2, 3, 4, 0] rfl (ih x10 x11 x12 (x4 + 1) s5)
          · refine s_jn (fun (j4 : Mem → PR) => ∀ (s7 : Mem), SX6_centre B X (j4 s7) s7 89 [(0, rv B 0), (6, iv x4)] []) ?_ (fun j4 hj4 => ?_)
            · intro s6
              refine s_iload 1 dX6_centre_89 rfl ?_
              refine s_istore_n (lv' := [(1, iv x4), (0, rv B 0), (6, iv x4)]) dX6_centre_91 rfl (by decide) rfl ?_
              refine s_aload_n 1 dX6_centre_92 rfl rfl ?_
              refine s_getr (n := 135) (k' := 136) dX6_centre_93 ly6 fl_X6_19 kd_0 rfl rfl rfl ?_
              refine s_getl dX6_centre_96 ly2 fl_X6_243 kd_136 rfl ?_
              refine s_ltl (fun x13 => ?_)
              refine s_lstore_n (lv' := [(2, jv x13), (1, iv x4), (0, rv B 0), (6, iv x4)]) dX6_centre_99 rfl (by decide) rfl ?_
              refine s_aload_n 2 dX6_centre_100 rfl rfl ?_
              refine s_getr (n := 135) (k' := 136) dX6_centre_101 ly6 fl_X6_19 kd_0 rfl rfl rfl ?_
              refine s_getl dX6_centre_104 ly2 fl_X6_250 kd_136 rfl ?_
              refine s_ltl (fun x14 => ?_)
              refine s_lstore (lv' := [(4, jv x14), (2, jv x13), (1, iv x4), (0, rv B 0), (6, iv x4)]) dX6_centre_107 (by decide) rfl ?_
              exact s_sub [3, 2, 1, 0, 4] rfl (hj3 x4 x13 x14 s6)
            · refine s_if_eq (tgt := 89) dX6_centre_76 (by decide) ?_ ?_
              · exact s_sub [1, 5] rfl (hj4 s4)
              · refine s_iload 6 dX6_centre_79 rfl ?_
                refine s_if_ne (tgt := 89) dX6_centre_81 (by decide) ?_ ?_
                · exact s_sub [1, 5] rfl (hj4 s4)
                · refine s_iload 0 dX6_centre_84 rfl ?_
                  refine s_if_eq (tgt := 109) dX6_centre_86 (by decide) ?_ ?_
                  · exact s_sub [1, 2, 3, 4, 5] rfl (hj3 x1 x2 x3 s4)
                  · exact s_sub [1, 5] rfl (hj4 s4)
        · refine s_jn (fun (j5 : Mem → PR) => ∀ (s10 : Mem), SX6_centre B X (j5 s10) s10 71 [(0, rv B 0), (1, iv x1), (2, jv x2), (4, jv x3), (6, iv x4), (7, iv x8)] []) ?_ (fun j5 hj5 => ?_)
          · intro s9
            refine s_iconst dX6_centre_71 ?_
            exact hj2 0 s9
          · refine s_lif_ne (tgt := 71) dX6_centre_50 dX6_centre_51 (by decide) ?_ ?_
            · exact s_sub [1, 2, 3, 4, 5, 0] rfl (hj5 s3)
            · refine s_aload_n 1 dX6_centre_54 rfl rfl ?_
              refine s_getr (n := 135) (k' := 136) dX6_centre_55 ly6 fl_X6_19 kd_0 rfl rfl rfl ?_
              refine s_getl dX6_centre_58 ly2 fl_X6_250 kd_136 rfl ?_
              refine s_lload 4 dX6_centre_61 rfl ?_
              refine s_lif_ge (tgt := 71) dX6_centre_63 dX6_centre_64 (by decide) ?_ ?_
              · exact s_sub [1, 2, 3, 4, 5, 0] rfl (hj5 s3)
              · refine s_iconst dX6_centre_67 ?_
                refine s_goto (tgt := 72) dX6_centre_68 (by decide) ?_
                exact s_sub [1, 2, 3, 4, 5, 0] rfl (hj2 1 s3)
      · refine s_lif_ge (tgt := 39) dX6_centre_31 dX6_centre_32 (by decide) ?_ ?_
        · refine s_iconst dX6_centre_39 ?_
          exact hj1 0 s2
        · refine s_iconst dX6_centre_35 ?_
          refine s_goto (tgt := 40) dX6_centre_36 (by decide) ?_
          exact hj1 1 s2
set_option maxHeartbeats 4000000 in
set_option maxRecDepth 100000 in
theorem ctX6_centre (B fu : Nat) (σ : Mem) : CtI yX6_centre cX6_centre 9 (some .int) rmX6_centre B [rv B 0] σ (fX6_centre fu σ) := by
  refine ctI_intro (own := RX6) (lv := [(0, rv B 0)]) (by decide +kernel) rfl (Nat.le_of_ble_eq_true rfl) rfl (fun X hX => ?_)
  unfold fX6_centre
  refine s_iconst dX6_centre_0 ?_
  refine s_istore_n (lv' := [(1, iv 0), (0, rv B 0)]) dX6_centre_1 rfl (by decide) rfl ?_
  refine s_lconst (x := 0) dX6_centre_2 (by decide) ?_
  refine s_lstore_n (lv' := [(2, jv 0), (1, iv 0), (0, rv B 0)]) dX6_centre_3 rfl (by decide) rfl ?_
  refine s_lconst (x := 0) dX6_centre_4 (by decide) ?_
  refine s_lstore (lv' := [(4, jv 0), (2, jv 0), (1, iv 0), (0, rv B 0)]) dX6_centre_5 (by decide) rfl ?_
  refine s_iconst dX6_centre_7 ?_
  refine s_istore (lv' := [(6, iv 0), (4, jv 0), (2, jv 0), (1, iv 0), (0, rv B 0)]) dX6_centre_8 (by decide) rfl ?_
  refine s_sub [4, 3, 2, 1, 0] (lv' := [(0, rv B 0), (1, iv 0), (2, jv 0), (4, jv 0), (6, iv 0)]) rfl ?_
  refine fX6_centre_L10_s hX _ ?_ fu 0 0 0 0 σ
  intro x15 x16 x17 s15
  refine s_aload_n 0 dX6_centre_115 rfl rfl ?_
  refine s_getr (n := 322) (k' := 323) dX6_centre_116 ly6 fl_X6_26 kd_0 rfl rfl rfl ?_
  refine s_lload 3 dX6_centre_119 rfl ?_
  refine s_lload_n 2 dX6_centre_121 rfl rfl ?_
  refine s_Vv (rest := []) dX6_centre_122 lk_X6_167 meX3_putTwo (ctX3_putTwo B fu x17 x16 s15) kd_323 ⟨rfl, by decide⟩ rfl rfl ⟨rfl, rfl, by decide, by decide⟩ (Nat.le_of_ble_eq_true rfl) (fun _ s16 => ?_)
  refine s_iload_n 1 dX6_centre_125 rfl rfl ?_
  exact s_iret hX dX6_centre_126
