abbrev rmX7_isInSet : Room := { frames := 0, cells := 0, slots := 0, locals := 0 }
abbrev SX7_isInSet (B : Nat) (X : Ctx) := Sim cX7_isInSet RX7 4 rmX7_isInSet B X
set_option maxHeartbeats 4000000 in
set_option maxRecDepth 100000 in
theorem fX7_isInSet_L2_s {B fu : Nat} {X : Ctx} (hX : CxI .boolean B X) (c1 : Int) (c2 : Int) (k35 : Mem → PR) (hk35 : ∀ (s3 : Mem), SX7_isInSet B X (k35 s3) s3 35 [] []) (k27 : Mem → PR) (hk27 : ∀ (s4 : Mem), SX7_isInSet B X (k27 s4) s4 27 [] []) : ∀ (n : Nat) (x1 : Int) (s2 : Mem), SX7_isInSet B X (fX7_isInSet_L2 fu c1 c2 k35 k27 n x1 s2) s2 2 [(0, rv B 328), (1, iv c1), (2, iv c2), (3, iv x1)] [] := by
  intro n
  induction n with
  | zero => intro _ _; exact s_none
  | succ n ih =>
    intro x1 s1
    rw [fX7_isInSet_L2]
    refine s_iload_n 3 dX7_isInSet_2 rfl rfl ?_
    refine s_aload_n 0 dX7_isInSet_3 rfl rfl ?_
    refine s_getr (n := 23) (k' := 352) dX7_isInSet_4 ly7 fl_X7_86 kd_328 rfl rfl rfl ?_
    refine s_iload_n 2 dX7_isInSet_7 rfl rfl ?_
    refine s_iald 10 dX7_isInSet_8 kd_352 (by decide) (fun x2 => ?_)
    refine s_icmp_ge (tgt := 35) dX7_isInSet_9 (by decide) ?_ ?_
    · exact s_sub [] rfl (hk35 s1)
    · refine s_aload_n 0 dX7_isInSet_12 rfl rfl ?_
      refine s_getr (n := 22) (k' := 351) dX7_isInSet_13 ly7 fl_X7_83 kd_328 rfl rfl rfl ?_
      refine s_bipush dX7_isInSet_16 (by decide) ?_
      refine s_iload_n 2 dX7_isInSet_18 rfl rfl ?_
      refine s_imul dX7_isInSet_19 ?_
      refine s_iload_n 3 dX7_isInSet_20 rfl rfl ?_
      refine s_iadd dX7_isInSet_21 ?_
      refine s_iald 120 dX7_isInSet_22 kd_351 (by decide) (fun x3 => ?_)
      refine s_iload_n 1 dX7_isInSet_23 rfl rfl ?_
      refine s_icmp_ne (tgt := 29) dX7_isInSet_24 (by decide) ?_ ?_
      · refine s_iinc (lv' := [(3, iv (x1 + 1)), (0, rv B 328), (1, iv c1), (2, iv c2)]) 3 dX7_isInSet_29 rfl (by decide) rfl ?_
        refine s_goto (tgt := 2) dX7_isInSet_32 (by decide) ?_
        exact s_sub [1, 2, 3, 0] rfl (ih (x1 + 1) s1)
      · exact s_sub [] rfl (hk27 s1)
set_option maxHeartbeats 4000000 in
set_option maxRecDepth 100000 in
theorem ctX7_isInSet (B fu : Nat) (a0 : Int) (a1 : Int) (σ : Mem) : CtI yX7_isInSet cX7_isInSet 4 (some .boolean) rmX7_isInSet B [rv B 328, iv a0, iv a1] σ (fX7_isInSet fu a0 a1 σ) := by
  refine ctI_intro (own := RX7) (lv := [(0, rv B 328), (1, iv a0), (2, iv a1)]) (by decide +kernel) rfl (Nat.le_of_ble_eq_true rfl) rfl (fun X hX => ?_)
  unfold fX7_isInSet
  refine s_iconst dX7_isInSet_0 ?_
  refine s_istore_n (lv' := [(3, iv 0), (0, rv B 328), (1, iv a0), (2, iv a1)]) dX7_isInSet_1 rfl (by decide) rfl ?_
  refine s_sub [1, 2, 3, 0] (lv' := [(0, rv B 328), (1, iv a0), (2, iv a1), (3, iv 0)]) rfl ?_
  refine fX7_isInSet_L2_s hX a0 a1 _ ?_ _ ?_ fu 0 σ
  · intro s5
    refine s_iconst dX7_isInSet_35 ?_
    exact s_zret hX dX7_isInSet_36
  · intro s6
    refine s_iconst dX7_isInSet_27 ?_
    exact s_zret hX dX7_isInSet_28
abbrev rmX7_boarding : Room := { frames := 8, cells := 0, slots := 0, locals := 183 }
abbrev SX7_boarding (B : Nat) (X : Ctx) := Sim cX7_boarding RX7 3 rmX7_boarding B X
set_option maxHeartbeats 4000000 in
set_option maxRecDepth 100000 in
theorem ctX7_boarding (B fu : Nat) (a0 : Int) (a1 : Int) (σ : Mem) : CtI yX7_boarding cX7_boarding 3 (some .int) rmX7_boarding B [rv B 328, iv a0, iv a1] σ (fX7_boarding fu a0 a1 σ) := by
  refine ctI_intro (own := RX7) (lv := [(0, rv B 328), (1, iv a0), (2, iv a1)]) (by decide +kernel) rfl (Nat.le_of_ble_eq_true rfl) rfl (fun X hX => ?_)
  unfold fX7_boarding
  refine s_aload_n 0 dX7_boarding_0 rfl rfl ?_
  refine s_iconst dX7_boarding_1 ?_
  refine s_puti dX7_boarding_2 ly7 ty7 fl_X7_116 kd_328 rfl po7_20 ⟨rfl, rfl, by decide⟩ (fun s1 => ?_)
  refine s_aload_n 0 dX7_boarding_5 rfl rfl ?_
  refine s_iload_n 1 dX7_boarding_6 rfl rfl ?_
  refine s_iload_n 2 dX7_boarding_7 rfl rfl ?_
  refine s_Vi (rest := []) dX7_boarding_8 lk_X7_252 meX7_isStep (ctX7_isStep B fu a0 a1 s1) kd_328 ⟨rfl, by decide⟩ rfl rfl ⟨rfl, rfl, by decide, by decide⟩ (Nat.le_of_ble_eq_true rfl) (fun x1 s2 => ?_)
  refine s_if_ne (tgt := 16) dX7_boarding_11 (by decide) ?_ ?_
  · refine s_aload_n 0 dX7_boarding_16 rfl rfl ?_
    refine s_Vv (rest := []) dX7_boarding_17 lk_X7_246 meX7_laysCosts (ctX7_laysCosts B fu s2) kd_328 ⟨rfl, by decide⟩ rfl rfl ⟨rfl, rfl, by decide, by decide⟩ (Nat.le_of_ble_eq_true rfl) (fun _ s3 => ?_)
    refine s_aload_n 0 dX7_boarding_20 rfl rfl ?_
    refine s_iload_n 1 dX7_boarding_21 rfl rfl ?_
    refine s_iload_n 2 dX7_boarding_22 rfl rfl ?_
    refine s_Vl (rest := []) dX7_boarding_23 lk_X7_221 meX7_boardingAt (ctX7_boardingAt B fu a0 a1 s3) kd_328 ⟨rfl, by decide⟩ rfl rfl ⟨rfl, rfl, by decide, by decide⟩ (Nat.le_of_ble_eq_true rfl) (fun x2 s4 => ?_)
    refine s_lconst (x := 0) dX7_boarding_26 (by decide) ?_
    refine s_lif_ge (tgt := 34) dX7_boarding_27 dX7_boarding_28 (by decide) ?_ ?_
    · refine s_aload_n 0 dX7_boarding_34 rfl rfl ?_
      refine s_iconst dX7_boarding_35 ?_
      refine s_puti dX7_boarding_36 ly7 ty7 fl_X7_119 kd_328 rfl po7_19 ⟨rfl, rfl, by decide⟩ (fun s5 => ?_)
      refine s_aload_n 0 dX7_boarding_39 rfl rfl ?_
      refine s_aload_n 0 dX7_boarding_40 rfl rfl ?_
      refine s_iload_n 1 dX7_boarding_41 rfl rfl ?_
      refine s_aload_n 0 dX7_boarding_42 rfl rfl ?_
      refine s_getr (n := 2) (k' := 331) dX7_boarding_43 ly7 fl_X7_16 kd_328 rfl rfl rfl ?_
      refine s_iload_n 1 dX7_boarding_46 rfl rfl ?_
      refine s_iload_n 2 dX7_boarding_47 rfl rfl ?_
      refine s_Si (rest := [rv B 331, iv a0, rv B 328, rv B 328]) dX7_boarding_48 lk_X7_165 meX7_at (ctX7_at B fu a0 a1 s5) rfl rfl ⟨rfl, rfl, by decide, by decide⟩ (Nat.le_of_ble_eq_true rfl) (fun x3 s6 => ?_)
      refine s_iald 96 dX7_boarding_51 kd_331 (by decide) (fun x4 => ?_)
      refine s_Vi (rest := [rv B 328]) dX7_boarding_52 lk_X7_255 meX7_isInSet (ctX7_isInSet B fu a0 x4 s6) kd_328 ⟨rfl, by decide⟩ rfl rfl ⟨rfl, rfl, by decide, by decide⟩ (Nat.le_of_ble_eq_true rfl) (fun x5 s7 => ?_)
      refine s_jn (fun (j1 : Int → Mem → PR) => ∀ (x6 : Int) (s11 : Mem), SX7_boarding B X (j1 x6 s11) s11 63 [(0, rv B 328), (1, iv a0), (2, iv a1)] [jv x6, rv B 328]) ?_ (fun j1 hj1 => ?_)
      · intro x6 s8
        refine s_Vv (rest := []) dX7_boarding_63 lk_X7_211 meX7_tell (ctX7_tell B fu x6 s8) kd_328 ⟨rfl, by decide⟩ rfl rfl ⟨rfl, rfl, by decide, by decide⟩ (Nat.le_of_ble_eq_true rfl) (fun _ s9 => ?_)
        refine s_aload_n 0 dX7_boarding_66 rfl rfl ?_
        refine s_iload_n 1 dX7_boarding_67 rfl rfl ?_
        refine s_iload_n 2 dX7_boarding_68 rfl rfl ?_
        refine s_Vl (rest := []) dX7_boarding_69 lk_X7_221 meX7_boardingAt (ctX7_boardingAt B fu a0 a1 s9) kd_328 ⟨rfl, by decide⟩ rfl rfl ⟨rfl, rfl, by decide, by decide⟩ (Nat.le_of_ble_eq_true rfl) (fun x7 s10 => ?_)
        refine s_l2i dX7_boarding_72 ?_
        exact s_iret hX dX7_boarding_73
      · refine s_if_eq (tgt := 62) dX7_boarding_55 (by decide) ?_ ?_
        · refine s_lconst (x := 0) dX7_boarding_62 (by decide) ?_
          exact hj1 0 s7
        · refine s_lconst (x := 1) dX7_boarding_58 (by decide) ?_
          refine s_goto (tgt := 63) dX7_boarding_59 (by decide) ?_
          exact hj1 1 s7
    · refine s_bipush dX7_boarding_31 (by decide) ?_
      exact s_iret hX dX7_boarding_33
  · refine s_iconst dX7_boarding_14 ?_
    exact s_iret hX dX7_boarding_15
abbrev rmX7_aboard : Room := { frames := 8, cells := 0, slots := 0, locals := 183 }
abbrev SX7_aboard (B : Nat) (X : Ctx) := Sim cX7_aboard RX7 3 rmX7_aboard B X
set_option maxHeartbeats 4000000 in
set_option maxRecDepth 100000 in
theorem ctX7_aboard (B fu : Nat) (a0 : Int) (a1 : Int) (σ : Mem) : CtI yX7_aboard cX7_aboard 3 (some .int) rmX7_aboard B [rv B 328, iv a0, iv a1] σ (fX7_aboard fu a0 a1 σ) := by
  refine ctI_intro (own := RX7) (lv := [(0, rv B 328), (1, iv a0), (2, iv a1)]) (by decide +kernel) rfl (Nat.le_of_ble_eq_true rfl) rfl (fun X hX => ?_)
  unfold fX7_aboard
  refine s_aload_n 0 dX7_aboard_0 rfl rfl ?_
  refine s_iconst dX7_aboard_1 ?_
  refine s_puti dX7_aboard_2 ly7 ty7 fl_X7_116 kd_328 rfl po7_20 ⟨rfl, rfl, by decide⟩ (fun s1 => ?_)
  refine s_aload_n 0 dX7_aboard_5 rfl rfl ?_
  refine s_iload_n 1 dX7_aboard_6 rfl rfl ?_
  refine s_iload_n 2 dX7_aboard_7 rfl rfl ?_
  refine s_Vi (rest := []) dX7_aboard_8 lk_X7_207 meX7_isHalt (ctX7_isHalt B fu a0 a1 s1) kd_328 ⟨rfl, by decide⟩ rfl rfl ⟨rfl, rfl, by decide, by decide⟩ (Nat.le_of_ble_eq_true rfl) (fun x1 s2 => ?_)
  refine s_if_ne (tgt := 16) dX7_aboard_11 (by decide) ?_ ?_
  · refine s_aload_n 0 dX7_aboard_16 rfl rfl ?_
    refine s_Vv (rest := []) dX7_aboard_17 lk_X7_246 meX7_laysCosts (ctX7_laysCosts B fu s2) kd_328 ⟨rfl, by decide⟩ rfl rfl ⟨rfl, rfl, by decide, by decide⟩ (Nat.le_of_ble_eq_true rfl) (fun _ s3 => ?_)
    refine s_aload_n 0 dX7_aboard_20 rfl rfl ?_
    refine s_getr (n := 19) (k' := 348) dX7_aboard_21 ly7 fl_X7_74 kd_328 rfl rfl rfl ?_
    refine s_iload_n 1 dX7_aboard_24 rfl rfl ?_
    refine s_iload_n 2 dX7_aboard_25 rfl rfl ?_
    refine s_Si (rest := [rv B 348]) dX7_aboard_26 lk_X7_165 meX7_at (ctX7_at B fu a0 a1 s3) rfl rfl ⟨rfl, rfl, by decide, by decide⟩ (Nat.le_of_ble_eq_true rfl) (fun x2 s4 => ?_)
    refine s_lald 96 dX7_aboard_29 kd_348 (by decide) (fun x3 => ?_)
    refine s_lconst (x := 0) dX7_aboard_30 (by decide) ?_
    refine s_lif_ge (tgt := 38) dX7_aboard_31 dX7_aboard_32 (by decide) ?_ ?_
    · refine s_aload_n 0 dX7_aboard_38 rfl rfl ?_
      refine s_iconst dX7_aboard_39 ?_
      refine s_puti dX7_aboard_40 ly7 ty7 fl_X7_119 kd_328 rfl po7_19 ⟨rfl, rfl, by decide⟩ (fun s5 => ?_)
      refine s_aload_n 0 dX7_aboard_43 rfl rfl ?_
      refine s_aload_n 0 dX7_aboard_44 rfl rfl ?_
      refine s_getr (n := 20) (k' := 349) dX7_aboard_45 ly7 fl_X7_77 kd_328 rfl rfl rfl ?_
      refine s_iload_n 1 dX7_aboard_48 rfl rfl ?_
      refine s_iload_n 2 dX7_aboard_49 rfl rfl ?_
      refine s_Si (rest := [rv B 349, rv B 328]) dX7_aboard_50 lk_X7_165 meX7_at (ctX7_at B fu a0 a1 s5) rfl rfl ⟨rfl, rfl, by decide, by decide⟩ (Nat.le_of_ble_eq_true rfl) (fun x4 s6 => ?_)
      refine s_zald 96 dX7_aboard_53 kd_349 (by decide) (fun x5 => ?_)
      refine s_jn (fun (j1 : Int → Mem → PR) => ∀ (x6 : Int) (s10 : Mem), SX7_aboard B X (j1 x6 s10) s10 62 [(0, rv B 328), (1, iv a0), (2, iv a1)] [jv x6, rv B 328]) ?_ (fun j1 hj1 => ?_)
      · intro x6 s7
        refine s_Vv (rest := []) dX7_aboard_62 lk_X7_211 meX7_tell (ctX7_tell B fu x6 s7) kd_328 ⟨rfl, by decide⟩ rfl rfl ⟨rfl, rfl, by decide, by decide⟩ (Nat.le_of_ble_eq_true rfl) (fun _ s8 => ?_)
        refine s_aload_n 0 dX7_aboard_65 rfl rfl ?_
        refine s_getr (n := 19) (k' := 348) dX7_aboard_66 ly7 fl_X7_74 kd_328 rfl rfl rfl ?_
        refine s_iload_n 1 dX7_aboard_69 rfl rfl ?_
        refine s_iload_n 2 dX7_aboard_70 rfl rfl ?_
        refine s_Si (rest := [rv B 348]) dX7_aboard_71 lk_X7_165 meX7_at (ctX7_at B fu a0 a1 s8) rfl rfl ⟨rfl, rfl, by decide, by decide⟩ (Nat.le_of_ble_eq_true rfl) (fun x7 s9 => ?_)
        refine s_lald 96 dX7_aboard_74 kd_348 (by decide) (fun x8 => ?_)
        refine s_l2i dX7_aboard_75 ?_
        exact s_iret hX dX7_aboard_76
      · refine s_if_eq (tgt := 61) dX7_aboard_54 (by decide) ?_ ?_
        · refine s_lconst (x := 0) dX7_aboard_61 (by decide) ?_
          exact hj1 0 s6
        · refine s_lconst (x := 1) dX7_aboard_57 (by decide) ?_
          refine s_goto (tgt := 62) dX7_aboard_58 (by decide) ?_
          exact hj1 1 s6
    · refine s_bipush dX7_aboard_35 (by decide) ?_
      exact s_iret hX dX7_aboard_37
  · refine s_iconst dX7_aboard_14 ?_
    exact s_iret hX dX7_aboard_15
abbrev rmX7_worst : Room := { frames := 8, cells := 0, slots := 0, locals := 183 }
abbrev SX7_worst (B : Nat) (X : Ctx) := Sim cX7_worst RX7 3 rmX7_worst B X
set_option maxHeartbeats 4000000 in
set_option maxRecDepth 100000 in
theorem fX7_worst_L13_s {B fu : Nat} {X : Ctx} (hX : CxI .int B X) (k67 : Int → Mem → PR) (hk67 : ∀ (x3 : Int) (s9 : Mem), SX7_worst B X (k67 x3 s9) s9 67 [(0, rv B 328), (1, iv x3)] []) : ∀ (n : Nat) (x1 : Int) (x2 : Int) (s8 : Mem), SX7_worst B X (fX7_worst_L13 fu k67 n x1 x2 s8) s8 13 [(0, rv B 328), (1, iv x1), (2, iv x2)] [] := by
  intro n
  induction n with
  | zero => intro _ _ _; exact s_none
  | succ n ih =>
    intro x1 x2 s3
    rw [fX7_worst_L13]
    refine s_iload_n 2 dX7_worst_13 rfl rfl ?_
    refine s_bipush dX7_worst_14 (by decide) ?_
    refine s_icmp_ge (tgt := 67) dX7_worst_16 (by decide) ?_ ?_
    · exact s_sub [0, 1] rfl (hk67 x1 s3)
    · refine s_iload_n 2 dX7_worst_19 rfl rfl ?_
      refine s_aload_n 0 dX7_worst_20 rfl rfl ?_
      refine s_geti dX7_worst_21 ly7 fl_X7_197 kd_328 rfl ?_
      refine s_jn (fun (j1 : Int → Mem → PR) => ∀ (x4 : Int) (s7 : Mem), SX7_worst B X (j1 x4 s7) s7 61 [(0, rv B 328), (1, iv x4), (2, iv x2)] []) ?_ (fun j1 hj1 => ?_)
      · intro x4 s4
        refine s_iinc (lv' := [(2, iv (x2 + 1)), (0, rv B 328), (1, iv x4)]) 2 dX7_worst_61 rfl (by decide) rfl ?_
        refine s_goto (tgt := 13) dX7_worst_64 (by decide) ?_
        exact s_sub [1, 2, 0] rfl (ih x4 (x2 + 1) s4)
      · refine s_icmp_eq (tgt := 61) dX7_worst_24 (by decide) ?_ ?_
        · exact hj1 x1 s3
        · refine s_aload_n 0 dX7_worst_27 rfl rfl ?_
          refine s_getr (n := 17) (k' := 346) dX7_worst_28 ly7 fl_X7_68 kd_328 rfl rfl rfl ?_
          refine s_iload_n 2 dX7_worst_31 rfl rfl ?_
          refine s_lald 10 dX7_worst_32 kd_346 (by decide) (fun x5 => ?_)
          refine s_lconst (x := 0) dX7_worst_33 (by decide) ?_
          refine s_lif_lt (tgt := 61) dX7_worst_34 dX7_worst_35 (by decide) ?_ ?_
          · exact hj1 x1 s3
          · refine s_iload_n 1 dX7_worst_38 rfl rfl ?_
            refine s_iconst dX7_worst_39 ?_
            refine s_jn (fun (j2 : Mem → PR) => ∀ (s6 : Mem), SX7_worst B X (j2 s6) s6 59 [(0, rv B 328), (2, iv x2)] []) ?_ (fun j2 hj2 => ?_)
            · intro s5
              refine s_iload_n 1 dX7_worst_59 rfl rfl ?_
              refine s_istore_n (lv' := [(1, iv x2), (0, rv B 328), (2, iv x2)]) dX7_worst_60 rfl (by decide) rfl ?_
              exact s_sub [1, 0, 2] rfl (hj1 x2 s5)
            · refine s_icmp_eq (tgt := 59) dX7_worst_40 (by decide) ?_ ?_
              · exact s_sub [0, 2] rfl (hj2 s3)
              · refine s_aload_n 0 dX7_worst_43 rfl rfl ?_
                refine s_getr (n := 17) (k' := 346) dX7_worst_44 ly7 fl_X7_68 kd_328 rfl rfl rfl ?_
                refine s_iload_n 2 dX7_worst_47 rfl rfl ?_
                refine s_lald 10 dX7_worst_48 kd_346 (by decide) (fun x6 => ?_)
                refine s_aload_n 0 dX7_worst_49 rfl rfl ?_
                refine s_getr (n := 17) (k' := 346) dX7_worst_50 ly7 fl_X7_68 kd_328 rfl rfl rfl ?_
                refine s_iload_n 1 dX7_worst_53 rfl rfl ?_
                refine s_lald 10 dX7_worst_54 kd_346 (by decide) (fun x7 => ?_)
                refine s_lif_le (tgt := 61) dX7_worst_55 dX7_worst_56 (by decide) ?_ ?_
                · exact hj1 x1 s3
                · exact s_sub [0, 2] rfl (hj2 s3)
set_option maxHeartbeats 4000000 in
set_option maxRecDepth 100000 in
theorem ctX7_worst (B fu : Nat) (σ : Mem) : CtI yX7_worst cX7_worst 3 (some .int) rmX7_worst B [rv B 328] σ (fX7_worst fu σ) := by
  refine ctI_intro (own := RX7) (lv := [(0, rv B 328)]) (by decide +kernel) rfl (Nat.le_of_ble_eq_true rfl) rfl (fun X hX => ?_)
  unfold fX7_worst
  refine s_aload_n 0 dX7_worst_0 rfl rfl ?_
  refine s_iconst dX7_worst_1 ?_
  refine s_puti dX7_worst_2 ly7 ty7 fl_X7_116 kd_328 rfl po7_20 ⟨rfl, rfl, by decide⟩ (fun s1 => ?_)
  refine s_aload_n 0 dX7_worst_5 rfl rfl ?_
  refine s_Vv (rest := []) dX7_worst_6 lk_X7_246 meX7_laysCosts (ctX7_laysCosts B fu s1) kd_328 ⟨rfl, by decide⟩ rfl rfl ⟨rfl, rfl, by decide, by decide⟩ (Nat.le_of_ble_eq_true rfl) (fun _ s2 => ?_)
  refine s_iconst dX7_worst_9 ?_
  refine s_istore_n (lv' := [(1, iv (-1)), (0, rv B 328)]) dX7_worst_10 rfl (by decide) rfl ?_
  refine s_iconst dX7_worst_11 ?_
  refine s_istore_n (lv' := [(2, iv 0), (1, iv (-1)), (0, rv B 328)]) dX7_worst_12 rfl (by decide) rfl ?_
  refine s_sub [2, 1, 0] (lv' := [(0, rv B 328), (1, iv (-1)), (2, iv 0)]) rfl ?_
  refine fX7_worst_L13_s hX _ ?_ fu (-1) 0 s2
  intro x8 s10
  refine s_iload_n 1 dX7_worst_67 rfl rfl ?_
  refine s_iconst dX7_worst_68 ?_
  refine s_icmp_ne (tgt := 75) dX7_worst_69 (by decide) ?_ ?_
  · refine s_aload_n 0 dX7_worst_75 rfl rfl ?_
    refine s_iconst dX7_worst_76 ?_
    refine s_puti dX7_worst_77 ly7 ty7 fl_X7_119 kd_328 rfl po7_19 ⟨rfl, rfl, by decide⟩ (fun s11 => ?_)
    refine s_aload_n 0 dX7_worst_80 rfl rfl ?_
    refine s_aload_n 0 dX7_worst_81 rfl rfl ?_
    refine s_getr (n := 17) (k' := 346) dX7_worst_82 ly7 fl_X7_68 kd_328 rfl rfl rfl ?_
    refine s_iload_n 1 dX7_worst_85 rfl rfl ?_
    refine s_lald 10 dX7_worst_86 kd_346 (by decide) (fun x9 => ?_)
    refine s_Vv (rest := []) dX7_worst_87 lk_X7_211 meX7_tell (ctX7_tell B fu x9 s11) kd_328 ⟨rfl, by decide⟩ rfl rfl ⟨rfl, rfl, by decide, by decide⟩ (Nat.le_of_ble_eq_true rfl) (fun _ s12 => ?_)
    refine s_iload_n 1 dX7_worst_90 rfl rfl ?_
    exact s_iret hX dX7_worst_91
  · refine s_bipush dX7_worst_72 (by decide) ?_
    exact s_iret hX dX7_worst_74
abbrev rmX7_wait : Room := { frames := 8, cells := 0, slots := 0, locals := 183 }
abbrev SX7_wait (B : Nat) (X : Ctx) := Sim cX7_wait RX7 2 rmX7_wait B X
set_option maxHeartbeats 4000000 in
set_option maxRecDepth 100000 in
theorem ctX7_wait (B fu : Nat) (a0 : Int) (σ : Mem) : CtI yX7_wait cX7_wait 2 (some .int) rmX7_wait B [rv B 328, iv a0] σ (fX7_wait fu a0 σ) := by
  refine ctI_intro (own := RX7) (lv := [(0, rv B 328), (1, iv a0)]) (by decide +kernel) rfl (Nat.le_of_ble_eq_true rfl) rfl (fun X hX => ?_)
  unfold fX7_wait
  refine s_aload_n 0 dX7_wait_0 rfl rfl ?_
  refine s_iconst dX7_wait_1 ?_
  refine s_puti dX7_wait_2 ly7 ty7 fl_X7_116 kd_328 rfl po7_20 ⟨rfl, rfl, by decide⟩ (fun s1 => ?_)
  refine s_iload_n 1 dX7_wait_5 rfl rfl ?_
  refine s_Si (rest := []) dX7_wait_6 lk_X7_162 meX7_isStop (ctX7_isStop B fu a0 s1) rfl rfl ⟨rfl, rfl, by decide, by decide⟩ (Nat.le_of_ble_eq_true rfl) (fun x1 s2 => ?_)
  refine s_if_ne (tgt := 14) dX7_wait_9 (by decide) ?_ ?_
  · refine s_aload_n 0 dX7_wait_14 rfl rfl ?_
    refine s_Vv (rest := []) dX7_wait_15 lk_X7_246 meX7_laysCosts (ctX7_laysCosts B fu s2) kd_328 ⟨rfl, by decide⟩ rfl rfl ⟨rfl, rfl, by decide, by decide⟩ (Nat.le_of_ble_eq_true rfl) (fun _ s3 => ?_)
    refine s_iload_n 1 dX7_wait_18 rfl rfl ?_
    refine s_aload_n 0 dX7_wait_19 rfl rfl ?_
    refine s_geti dX7_wait_20 ly7 fl_X7_197 kd_328 rfl ?_
    refine s_jn (fun (j1 : Int → Mem → PR) => ∀ (x2 : Int) (s7 : Mem), SX7_wait B X (j1 x2 s7) s7 56 [] [iv x2]) ?_ (fun j1 hj1 => ?_)
    · intro x2 s4
      exact s_iret hX dX7_wait_56
    · refine s_jn (fun (j2 : Mem → PR) => ∀ (s6 : Mem), SX7_wait B X (j2 s6) s6 37 [] []) ?_ (fun j2 hj2 => ?_)
      · intro s5
        refine s_bipush dX7_wait_37 (by decide) ?_
        refine s_goto (tgt := 56) dX7_wait_39 (by decide) ?_
        exact hj1 (-2) s5
      · refine s_icmp_eq (tgt := 37) dX7_wait_23 (by decide) ?_ ?_
        · exact s_sub [] rfl (hj2 s3)
        · refine s_aload_n 0 dX7_wait_26 rfl rfl ?_
          refine s_getr (n := 17) (k' := 346) dX7_wait_27 ly7 fl_X7_68 kd_328 rfl rfl rfl ?_
          refine s_iload_n 1 dX7_wait_30 rfl rfl ?_
          refine s_lald 10 dX7_wait_31 kd_346 (by decide) (fun x3 => ?_)
          refine s_lconst (x := 0) dX7_wait_32 (by decide) ?_
          refine s_lif_ge (tgt := 42) dX7_wait_33 dX7_wait_34 (by decide) ?_ ?_
          · refine s_bipush dX7_wait_42 (by decide) ?_
            refine s_aload_n 0 dX7_wait_44 rfl rfl ?_
            refine s_geti dX7_wait_45 ly7 fl_X7_39 kd_328 rfl ?_
            refine s_imul dX7_wait_48 ?_
            refine s_aload_n 0 dX7_wait_49 rfl rfl ?_
            refine s_getr (n := 21) (k' := 350) dX7_wait_50 ly7 fl_X7_80 kd_328 rfl rfl rfl ?_
            refine s_iload_n 1 dX7_wait_53 rfl rfl ?_
            refine s_iald 10 dX7_wait_54 kd_350 (by decide) (fun x4 => ?_)
            refine s_idiv dX7_wait_55 ?_
            exact s_sub [] rfl (hj1 (div32 (60 * (s3 328 10)) x4) s3)
          · exact s_sub [] rfl (hj2 s3)
  · refine s_iconst dX7_wait_12 ?_
    exact s_iret hX dX7_wait_13
abbrev rmX7_leaves : Room := { frames := 1, cells := 0, slots := 0, locals := 21 }
abbrev SX7_leaves (B : Nat) (X : Ctx) := Sim cX7_leaves RX7 4 rmX7_leaves B X
set_option maxHeartbeats 4000000 in
set_option maxRecDepth 100000 in
theorem fX7_leaves_L4_s {B fu : Nat} {X : Ctx} (hX : CxI .int B X) (c1 : Int) (k23 : Int → Mem → PR) (hk23 : ∀ (x3 : Int) (s4 : Mem), SX7_leaves B X (k23 x3 s4) s4 23 [(3, iv x3)] []) : ∀ (n : Nat) (x2 : Int) (s3 : Mem), SX7_leaves B X (fX7_leaves_L4 fu c1 k23 n x2 s3) s3 4 [(0, rv B 328), (1, iv c1), (3, iv x2)] [] := by
  intro n
  induction n with
  | zero => intro _ _; exact s_none
  | succ n ih =>
    intro x2 s1
    rw [fX7_leaves_L4]
    refine s_aload_n 0 dX7_leaves_4 rfl rfl ?_
    refine s_getr (n := 20) (k' := 349) dX7_leaves_5 ly7 fl_X7_77 kd_328 rfl rfl rfl ?_
    refine s_iload_n 1 dX7_leaves_8 rfl rfl ?_
    refine s_iload_n 2 dX7_leaves_9 rfl rfl ?_
    refine s_Si (rest := [rv B 349]) dX7_leaves_10 lk_X7_165 meX7_at (ctX7_at B fu c1 x2 s1) rfl rfl ⟨rfl, rfl, by decide, by decide⟩ (Nat.le_of_ble_eq_true rfl) (fun x4 s2 => ?_)
    refine s_zald 96 dX7_leaves_13 kd_349 (by decide) (fun x5 => ?_)
    refine s_if_ne (tgt := 23) dX7_leaves_14 (by decide) ?_ ?_
    · exact s_sub [2] rfl (hk23 x2 s2)
    · refine s_iinc (lv' := [(3, iv (x2 + 1)), (0, rv B 328), (1, iv c1)]) 2 dX7_leaves_17 rfl (by decide) rfl ?_
      refine s_goto (tgt := 4) dX7_leaves_20 (by decide) ?_
      exact s_sub [1, 2, 0] rfl (ih (x2 + 1) s2)
set_option maxHeartbeats 4000000 in
set_option maxRecDepth 100000 in
theorem ctX7_leaves (B fu : Nat) (a0 : Int) (a1 : Int) (σ : Mem) : CtI yX7_leaves cX7_leaves 4 (some .int) rmX7_leaves B [rv B 328, iv a0, iv a1] σ (fX7_leaves fu a0 a1 σ) := by
  refine ctI_intro (own := RX7) (lv := [(0, rv B 328), (1, iv a0), (2, iv a1)]) (by decide +kernel) rfl (Nat.le_of_ble_eq_true rfl) rfl (fun X hX => ?_)
  unfold fX7_leaves
  refine s_iload_n 2 dX7_leaves_0 rfl rfl ?_
  refine s_iconst dX7_leaves_1 ?_
  refine s_iadd dX7_leaves_2 ?_
  refine s_lti (fun x1 => ?_)
  refine s_istore_n (lv' := [(3, iv x1), (0, rv B 328), (1, iv a0), (2, iv a1)]) dX7_leaves_3 rfl (by decide) rfl ?_
  refine s_sub [1, 2, 0] (lv' := [(0, rv B 328), (1, iv a0), (3, iv x1)]) rfl ?_
  refine fX7_leaves_L4_s hX a0 _ ?_ fu x1 σ
  intro x6 s5
  refine s_iload_n 0 dX7_leaves_23 rfl rfl ?_
  exact s_iret hX dX7_leaves_24
abbrev rmX7_laysOrder : Room := { frames := 0, cells := 0, slots := 0, locals := 0 }
abbrev SX7_laysOrder (B : Nat) (X : Ctx) := Sim cX7_laysOrder RX7 3 rmX7_laysOrder B X
set_option maxHeartbeats 4000000 in
set_option maxRecDepth 100000 in
theorem fX7_laysOrder_L40_s {B fu : Nat} {X : Ctx} (hX : CxV B X) (c1 : Int) (k87 : Int → Mem → PR) (hk87 : ∀ (x5 : Int) (s7 : Mem), SX7_laysOrder B X (k87 x5 s7) s7 87 [(0, rv B 328), (1, iv c1), (2, iv x5)] []) : ∀ (n : Nat) (x4 : Int) (s6 : Mem), SX7_laysOrder B X (fX7_laysOrder_L40 fu c1 k87 n x4 s6) s6 40 [(0, rv B 328), (1, iv c1), (2, iv x4)] [] := by
  intro n
  induction n with
  | zero => intro _ _; exact s_none
  | succ n ih =>
    intro x4 s4
    rw [fX7_laysOrder_L40]
    refine s_iload_n 2 dX7_laysOrder_40 rfl rfl ?_
    refine s_if_le (tgt := 87) dX7_laysOrder_41 (by decide) ?_ ?_
    · exact hk87 x4 s4
    · refine s_aload_n 0 dX7_laysOrder_44 rfl rfl ?_
      refine s_getr (n := 17) (k' := 346) dX7_laysOrder_45 ly7 fl_X7_68 kd_328 rfl rfl rfl ?_
      refine s_aload_n 0 dX7_laysOrder_48 rfl rfl ?_
      refine s_getr (n := 25) (k' := 354) dX7_laysOrder_49 ly7 fl_X7_95 kd_328 rfl rfl rfl ?_
      refine s_iload_n 2 dX7_laysOrder_52 rfl rfl ?_
      refine s_iconst dX7_laysOrder_53 ?_
      refine s_isub dX7_laysOrder_54 ?_
      refine s_iald 10 dX7_laysOrder_55 kd_354 (by decide) (fun x6 => ?_)
      refine s_lald 10 dX7_laysOrder_56 kd_346 (by decide) (fun x7 => ?_)
      refine s_aload_n 0 dX7_laysOrder_57 rfl rfl ?_
      refine s_getr (n := 17) (k' := 346) dX7_laysOrder_58 ly7 fl_X7_68 kd_328 rfl rfl rfl ?_
      refine s_iload_n 1 dX7_laysOrder_61 rfl rfl ?_
      refine s_lald 10 dX7_laysOrder_62 kd_346 (by decide) (fun x8 => ?_)
      refine s_lif_ge (tgt := 87) dX7_laysOrder_63 dX7_laysOrder_64 (by decide) ?_ ?_
      · exact hk87 x4 s4
      · refine s_aload_n 0 dX7_laysOrder_67 rfl rfl ?_
        refine s_getr (n := 25) (k' := 354) dX7_laysOrder_68 ly7 fl_X7_95 kd_328 rfl rfl rfl ?_
        refine s_iload_n 2 dX7_laysOrder_71 rfl rfl ?_
        refine s_aload_n 0 dX7_laysOrder_72 rfl rfl ?_
        refine s_getr (n := 25) (k' := 354) dX7_laysOrder_73 ly7 fl_X7_95 kd_328 rfl rfl rfl ?_
        refine s_iload_n 2 dX7_laysOrder_76 rfl rfl ?_
        refine s_iconst dX7_laysOrder_77 ?_
        refine s_isub dX7_laysOrder_78 ?_
        refine s_iald 10 dX7_laysOrder_79 kd_354 (by decide) (fun x9 => ?_)
        refine s_iast 10 dX7_laysOrder_80 kd_354 (by decide) (fun s5 => ?_)
        refine s_iinc (lv' := [(2, iv (x4 + (-1))), (0, rv B 328), (1, iv c1)]) 2 dX7_laysOrder_81 rfl (by decide) rfl ?_
        refine s_goto (tgt := 40) dX7_laysOrder_84 (by decide) ?_
        exact s_sub [1, 2, 0] rfl (ih (x4 + (-1)) s5)
set_option maxHeartbeats 4000000 in
set_option maxRecDepth 100000 in
theorem fX7_laysOrder_L7_s {B fu : Nat} {X : Ctx} (hX : CxV B X) (k110 : Mem → PR) (hk110 : ∀ (s13 : Mem), SX7_laysOrder B X (k110 s13) s13 110 [] []) : ∀ (n : Nat) (x1 : Int) (s12 : Mem), SX7_laysOrder B X (fX7_laysOrder_L7 fu k110 n x1 s12) s12 7 [(0, rv B 328), (1, iv x1)] [] := by
  intro n
  induction n with
  | zero => intro _ _; exact s_none
  | succ n ih =>
    intro x1 s2
    rw [fX7_laysOrder_L7]
    refine s_iload_n 1 dX7_laysOrder_7 rfl rfl ?_
    refine s_bipush dX7_laysOrder_8 (by decide) ?_
    refine s_icmp_ge (tgt := 110) dX7_laysOrder_10 (by decide) ?_ ?_
    · exact s_sub [] rfl (hk110 s2)
    · refine s_iload_n 1 dX7_laysOrder_13 rfl rfl ?_
      refine s_aload_n 0 dX7_laysOrder_14 rfl rfl ?_
      refine s_geti dX7_laysOrder_15 ly7 fl_X7_197 kd_328 rfl ?_
      refine s_jn (fun (j1 : Mem → PR) => ∀ (s11 : Mem), SX7_laysOrder B X (j1 s11) s11 104 [(0, rv B 328), (1, iv x1)] []) ?_ (fun j1 hj1 => ?_)
      · intro s3
        refine s_iinc (lv' := [(1, iv (x1 + 1)), (0, rv B 328)]) 1 dX7_laysOrder_104 rfl (by decide) rfl ?_
        refine s_goto (tgt := 7) dX7_laysOrder_107 (by decide) ?_
        exact s_sub [1, 0] rfl (ih (x1 + 1) s3)
      · refine s_icmp_eq (tgt := 104) dX7_laysOrder_18 (by decide) ?_ ?_
        · exact hj1 s2
        · refine s_aload_n 0 dX7_laysOrder_21 rfl rfl ?_
          refine s_getr (n := 17) (k' := 346) dX7_laysOrder_22 ly7 fl_X7_68 kd_328 rfl rfl rfl ?_
          refine s_iload_n 1 dX7_laysOrder_25 rfl rfl ?_
          refine s_lald 10 dX7_laysOrder_26 kd_346 (by decide) (fun x2 => ?_)
          refine s_lconst (x := 0) dX7_laysOrder_27 (by decide) ?_
          refine s_lif_ge (tgt := 35) dX7_laysOrder_28 dX7_laysOrder_29 (by decide) ?_ ?_
          · refine s_aload_n 0 dX7_laysOrder_35 rfl rfl ?_
            refine s_geti dX7_laysOrder_36 ly7 fl_X7_258 kd_328 rfl ?_
            refine s_lti (fun x3 => ?_)
            refine s_istore_n (lv' := [(2, iv x3), (0, rv B 328), (1, iv x1)]) dX7_laysOrder_39 rfl (by decide) rfl ?_
            refine s_sub [1, 2, 0] (lv' := [(0, rv B 328), (1, iv x1), (2, iv x3)]) rfl ?_
            refine fX7_laysOrder_L40_s hX x1 _ ?_ fu x3 s2
            intro x10 s8
            refine s_aload_n 0 dX7_laysOrder_87 rfl rfl ?_
            refine s_getr (n := 25) (k' := 354) dX7_laysOrder_88 ly7 fl_X7_95 kd_328 rfl rfl rfl ?_
            refine s_iload_n 2 dX7_laysOrder_91 rfl rfl ?_
            refine s_iload_n 1 dX7_laysOrder_92 rfl rfl ?_
            refine s_iast 10 dX7_laysOrder_93 kd_354 (by decide) (fun s9 => ?_)
            refine s_aload_n 0 dX7_laysOrder_94 rfl rfl ?_
            refine s_dup dX7_laysOrder_95 rfl ?_
            refine s_geti dX7_laysOrder_96 ly7 fl_X7_258 kd_328 rfl ?_
            refine s_iconst dX7_laysOrder_99 ?_
            refine s_iadd dX7_laysOrder_100 ?_
            refine s_puti dX7_laysOrder_101 ly7 ty7 fl_X7_258 kd_328 rfl po7_40 ⟨rfl, rfl, by decide⟩ (fun s10 => ?_)
            exact s_sub [0, 1] rfl (hj1 s10)
          · refine s_goto (tgt := 104) dX7_laysOrder_32 (by decide) ?_
            exact hj1 s2
set_option maxHeartbeats 4000000 in
set_option maxRecDepth 100000 in
theorem ctX7_laysOrder (B fu : Nat) (σ : Mem) : CtV yX7_laysOrder cX7_laysOrder 3 none rmX7_laysOrder B [rv B 328] σ (fX7_laysOrder fu σ) := by
  refine ctV_intro (own := RX7) (lv := [(0, rv B 328)]) (by decide +kernel) rfl (Nat.le_of_ble_eq_true rfl) rfl (fun X hX => ?_)
  unfold fX7_laysOrder
  refine s_aload_n 0 dX7_laysOrder_0 rfl rfl ?_
  refine s_iconst dX7_laysOrder_1 ?_
  refine s_puti dX7_laysOrder_2 ly7 ty7 fl_X7_258 kd_328 rfl po7_40 ⟨rfl, rfl, by decide⟩ (fun s1 => ?_)
  refine s_iconst dX7_laysOrder_5 ?_
  refine s_istore_n (lv' := [(1, iv 0), (0, rv B 328)]) dX7_laysOrder_6 rfl (by decide) rfl ?_
  refine s_sub [1, 0] (lv' := [(0, rv B 328), (1, iv 0)]) rfl ?_
  refine fX7_laysOrder_L7_s hX _ ?_ fu 0 s1
  intro s14
  exact s_vret hX dX7_laysOrder_110
abbrev rmX7_boards : Room := { frames := 8, cells := 0, slots := 0, locals := 183 }
abbrev SX7_boards (B : Nat) (X : Ctx) := Sim cX7_boards RX7 8 rmX7_boards B X
set_option maxHeartbeats 4000000 in
set_option maxRecDepth 100000 in
theorem fX7_boards_L70_s {B fu : Nat} {X : Ctx} (hX : CxI .int B X) (c2 : Int) (c3 : Int) (c4 : Int) (k147 : Int → Mem → PR) (hk147 : ∀ (x8 : Int) (s12 : Mem), SX7_boards B X (k147 x8 s12) s12 147 [(0, rv B 328), (1, iv c2), (2, iv c3), (3, iv c4), (4, jv x8)] []) : ∀ (n : Nat) (x6 : Int) (x7 : Int) (s11 : Mem), SX7_boards B X (fX7_boards_L70 fu c2 c3 c4 k147 n x6 x7 s11) s11 70 [(0, rv B 328), (1, iv c2), (2, iv c3), (3, iv c4), (4, jv x6), (6, iv x7)] [] := by
  intro n
  induction n with
  | zero => intro _ _ _; exact s_none
  | succ n ih =>
    intro x6 x7 s7
    rw [fX7_boards_L70]
    refine s_iload 5 dX7_boards_70 rfl ?_
    refine s_aload_n 0 dX7_boards_72 rfl rfl ?_
    refine s_getr (n := 23) (k' := 352) dX7_boards_73 ly7 fl_X7_86 kd_328 rfl rfl rfl ?_
    refine s_iload_n 3 dX7_boards_76 rfl rfl ?_
    refine s_iald 10 dX7_boards_77 kd_352 (by decide) (fun x9 => ?_)
    refine s_icmp_ge (tgt := 147) dX7_boards_78 (by decide) ?_ ?_
    · exact s_sub [0, 1, 2, 3, 4] rfl (hk147 x6 s7)
    · refine s_aload_n 0 dX7_boards_81 rfl rfl ?_
      refine s_getr (n := 22) (k' := 351) dX7_boards_82 ly7 fl_X7_83 kd_328 rfl rfl rfl ?_
      refine s_bipush dX7_boards_85 (by decide) ?_
      refine s_iload_n 3 dX7_boards_87 rfl rfl ?_
      refine s_imul dX7_boards_88 ?_
      refine s_iload 5 dX7_boards_89 rfl ?_
      refine s_iadd dX7_boards_91 ?_
      refine s_iald 120 dX7_boards_92 kd_351 (by decide) (fun x10 => ?_)
      refine s_istore (lv' := [(7, iv x10), (0, rv B 328), (1, iv c2), (2, iv c3), (3, iv c4), (4, jv x6), (6, iv x7)]) dX7_boards_93 (by decide) rfl ?_
      refine s_lload 5 dX7_boards_95 rfl ?_
      refine s_aload_n 1 dX7_boards_97 rfl rfl ?_
      refine s_getr (n := 0) (k' := 329) dX7_boards_98 ly7 fl_X7_9 kd_328 rfl rfl rfl ?_
      refine s_iload 0 dX7_boards_101 rfl ?_
      refine s_iald 12 dX7_boards_103 kd_329 (by decide) (fun x11 => ?_)
      refine s_i2l dX7_boards_104 ?_
      refine s_ldc2 (x := 1000) dX7_boards_105 cl_X7_264 (by decide) ?_
      refine s_aload_n 1 dX7_boards_108 rfl rfl ?_
      refine s_getr (n := 26) (k' := 355) dX7_boards_109 ly7 fl_X7_98 kd_328 rfl rfl rfl ?_
      refine s_aload_n 1 dX7_boards_112 rfl rfl ?_
      refine s_getr (n := 2) (k' := 331) dX7_boards_113 ly7 fl_X7_16 kd_328 rfl rfl rfl ?_
      refine s_iload 0 dX7_boards_116 rfl ?_
      refine s_aload_n 1 dX7_boards_118 rfl rfl ?_
      refine s_iload 0 dX7_boards_119 rfl ?_
      refine s_aload_n 1 dX7_boards_121 rfl rfl ?_
      refine s_iload 0 dX7_boards_122 rfl ?_
      refine s_iload_n 4 dX7_boards_124 rfl rfl ?_
      refine s_Wi (rest := [iv x10, rv B 328, iv x10, rv B 331, rv B 355, jv 1000, jv (w32 x11), jv x6]) dX7_boards_125 lk_X7_224 meX7_placeOf (ctX7_placeOf B fu x10 c4 s7) kd_328 ⟨rfl, by decide⟩ rfl rfl ⟨rfl, rfl, by decide, by decide⟩ (Nat.le_of_ble_eq_true rfl) (fun x12 s8 => ?_)
      refine s_Wi (rest := [iv x10, rv B 331, rv B 355, jv 1000, jv (w32 x11), jv x6]) dX7_boards_128 lk_X7_266 meX7_leaves (ctX7_leaves B fu x10 x12 s8) kd_328 ⟨rfl, by decide⟩ rfl rfl ⟨rfl, rfl, by decide, by decide⟩ (Nat.le_of_ble_eq_true rfl) (fun x13 s9 => ?_)
      refine s_Si (rest := [rv B 331, rv B 355, jv 1000, jv (w32 x11), jv x6]) dX7_boards_131 lk_X7_165 meX7_at (ctX7_at B fu x10 x13 s9) rfl rfl ⟨rfl, rfl, by decide, by decide⟩ (Nat.le_of_ble_eq_true rfl) (fun x14 s10 => ?_)
      refine s_iald 96 dX7_boards_134 kd_331 (by decide) (fun x15 => ?_)
      refine s_lald 10 dX7_boards_135 kd_355 (by decide) (fun x16 => ?_)
      refine s_ladd dX7_boards_136 ?_
      refine s_lmul dX7_boards_137 ?_
      refine s_ladd dX7_boards_138 ?_
      refine s_ltl (fun x17 => ?_)
      refine s_lstore (lv' := [(4, jv x17), (7, iv x10), (0, rv B 328), (1, iv c2), (2, iv c3), (3, iv c4), (6, iv x7)]) dX7_boards_139 (by decide) rfl ?_
      refine s_iinc (lv' := [(6, iv (x7 + 1)), (4, jv x17), (7, iv x10), (0, rv B 328), (1, iv c2), (2, iv c3), (3, iv c4)]) 6 dX7_boards_141 rfl (by decide) rfl ?_
      refine s_goto (tgt := 70) dX7_boards_144 (by decide) ?_
      exact s_sub [3, 4, 5, 6, 1, 0] rfl (ih x17 (x7 + 1) s10)
set_option maxHeartbeats 4000000 in
set_option maxRecDepth 100000 in
theorem fX7_boards_L53_s {B fu : Nat} {X : Ctx} (hX : CxI .int B X) (c1 : Int) (k169 : Mem → PR) (hk169 : ∀ (s16 : Mem), SX7_boards B X (k169 s16) s16 169 [(0, rv B 328), (1, iv c1)] []) : ∀ (n : Nat) (x4 : Int) (s15 : Mem), SX7_boards B X (fX7_boards_L53 fu c1 k169 n x4 s15) s15 53 [(0, rv B 328), (1, iv c1), (2, iv x4)] [] := by
  intro n
  induction n with
  | zero => intro _ _; exact s_none
  | succ n ih =>
    intro x4 s6
    rw [fX7_boards_L53]
    refine s_iload_n 2 dX7_boards_53 rfl rfl ?_
    refine s_if_lt (tgt := 169) dX7_boards_54 (by decide) ?_ ?_
    · exact s_sub [0, 1] rfl (hk169 s6)
    · refine s_aload_n 0 dX7_boards_57 rfl rfl ?_
      refine s_getr (n := 25) (k' := 354) dX7_boards_58 ly7 fl_X7_95 kd_328 rfl rfl rfl ?_
      refine s_iload_n 2 dX7_boards_61 rfl rfl ?_
      refine s_iald 10 dX7_boards_62 kd_354 (by decide) (fun x5 => ?_)
      refine s_istore_n (lv' := [(3, iv x5), (0, rv B 328), (1, iv c1), (2, iv x4)]) dX7_boards_63 rfl (by decide) rfl ?_
      refine s_lconst (x := 0) dX7_boards_64 (by decide) ?_
      refine s_lstore (lv' := [(4, jv 0), (3, iv x5), (0, rv B 328), (1, iv c1), (2, iv x4)]) dX7_boards_65 (by decide) rfl ?_
      refine s_iconst dX7_boards_67 ?_
      refine s_istore (lv' := [(6, iv 0), (4, jv 0), (3, iv x5), (0, rv B 328), (1, iv c1), (2, iv x4)]) dX7_boards_68 (by decide) rfl ?_
      refine s_sub [3, 4, 5, 2, 1, 0] (lv' := [(0, rv B 328), (1, iv c1), (2, iv x4), (3, iv x5), (4, jv 0), (6, iv 0)]) rfl ?_
      refine fX7_boards_L70_s hX c1 x4 x5 _ ?_ fu 0 0 s6
      intro x18 s13
      refine s_aload_n 0 dX7_boards_147 rfl rfl ?_
      refine s_getr (n := 26) (k' := 355) dX7_boards_148 ly7 fl_X7_98 kd_328 rfl rfl rfl ?_
      refine s_iload_n 3 dX7_boards_151 rfl rfl ?_
      refine s_lload 4 dX7_boards_152 rfl ?_
      refine s_aload_n 0 dX7_boards_154 rfl rfl ?_
      refine s_getr (n := 21) (k' := 350) dX7_boards_155 ly7 fl_X7_80 kd_328 rfl rfl rfl ?_
      refine s_iload_n 3 dX7_boards_158 rfl rfl ?_
      refine s_iald 10 dX7_boards_159 kd_350 (by decide) (fun x19 => ?_)
      refine s_i2l dX7_boards_160 ?_
      refine s_ldiv dX7_boards_161 ?_
      refine s_last 10 dX7_boards_162 kd_355 (by decide) (fun s14 => ?_)
      refine s_iinc (lv' := [(2, iv (x4 + (-1))), (0, rv B 328), (1, iv c1), (3, iv x5), (4, jv x18)]) 2 dX7_boards_163 rfl (by decide) rfl ?_
      refine s_goto (tgt := 53) dX7_boards_166 (by decide) ?_
      exact s_sub [1, 2, 0] rfl (ih (x4 + (-1)) s14)
set_option maxHeartbeats 4000000 in
set_option maxRecDepth 100000 in
theorem ctX7_boards (B fu : Nat) (a0 : Int) (σ : Mem) : CtI yX7_boards cX7_boards 8 (some .int) rmX7_boards B [rv B 328, iv a0] σ (fX7_boards fu a0 σ) := by
  refine ctI_intro (own := RX7) (lv := [(0, rv B 328), (1, iv a0)]) (by decide +kernel) rfl (Nat.le_of_ble_eq_true rfl) rfl (fun X hX => ?_)
  unfold fX7_boards
  refine s_aload_n 0 dX7_boards_0 rfl rfl ?_
  refine s_iconst dX7_boards_1 ?_
  refine s_puti dX7_boards_2 ly7 ty7 fl_X7_116 kd_328 rfl po7_20 ⟨rfl, rfl, by decide⟩ (fun s1 => ?_)
  refine s_iload_n 1 dX7_boards_5 rfl rfl ?_
  refine s_Si (rest := []) dX7_boards_6 lk_X7_162 meX7_isStop (ctX7_isStop B fu a0 s1) rfl rfl ⟨rfl, rfl, by decide, by decide⟩ (Nat.le_of_ble_eq_true rfl) (fun x1 s2 => ?_)
  refine s_if_ne (tgt := 14) dX7_boards_9 (by decide) ?_ ?_
  · refine s_aload_n 0 dX7_boards_14 rfl rfl ?_
    refine s_Vv (rest := []) dX7_boards_15 lk_X7_246 meX7_laysCosts (ctX7_laysCosts B fu s2) kd_328 ⟨rfl, by decide⟩ rfl rfl ⟨rfl, rfl, by decide, by decide⟩ (Nat.le_of_ble_eq_true rfl) (fun _ s3 => ?_)
    refine s_aload_n 0 dX7_boards_18 rfl rfl ?_
    refine s_getr (n := 17) (k' := 346) dX7_boards_19 ly7 fl_X7_68 kd_328 rfl rfl rfl ?_
    refine s_iload_n 1 dX7_boards_22 rfl rfl ?_
    refine s_lald 10 dX7_boards_23 kd_346 (by decide) (fun x2 => ?_)
    refine s_lconst (x := 0) dX7_boards_24 (by decide) ?_
    refine s_lif_ge (tgt := 32) dX7_boards_25 dX7_boards_26 (by decide) ?_ ?_
    · refine s_aload_n 0 dX7_boards_32 rfl rfl ?_
      refine s_Vv (rest := []) dX7_boards_33 lk_X7_261 meX7_laysOrder (ctX7_laysOrder B fu s3) kd_328 ⟨rfl, by decide⟩ rfl rfl ⟨rfl, rfl, by decide, by decide⟩ (Nat.le_of_ble_eq_true rfl) (fun _ s4 => ?_)
      refine s_aload_n 0 dX7_boards_36 rfl rfl ?_
      refine s_getr (n := 26) (k' := 355) dX7_boards_37 ly7 fl_X7_98 kd_328 rfl rfl rfl ?_
      refine s_aload_n 0 dX7_boards_40 rfl rfl ?_
      refine s_geti dX7_boards_41 ly7 fl_X7_197 kd_328 rfl ?_
      refine s_lconst (x := 0) dX7_boards_44 (by decide) ?_
      refine s_last 10 dX7_boards_45 kd_355 (by decide) (fun s5 => ?_)
      refine s_aload_n 0 dX7_boards_46 rfl rfl ?_
      refine s_geti dX7_boards_47 ly7 fl_X7_258 kd_328 rfl ?_
      refine s_iconst dX7_boards_50 ?_
      refine s_isub dX7_boards_51 ?_
      refine s_lti (fun x3 => ?_)
      refine s_istore_n (lv' := [(2, iv x3), (0, rv B 328), (1, iv a0)]) dX7_boards_52 rfl (by decide) rfl ?_
      refine s_sub [1, 2, 0] (lv' := [(0, rv B 328), (1, iv a0), (2, iv x3)]) rfl ?_
      refine fX7_boards_L53_s hX a0 _ ?_ fu x3 s5
      intro s17
      refine s_aload_n 0 dX7_boards_169 rfl rfl ?_
      refine s_getr (n := 26) (k' := 355) dX7_boards_170 ly7 fl_X7_98 kd_328 rfl rfl rfl ?_
      refine s_iload_n 1 dX7_boards_173 rfl rfl ?_
      refine s_lald 10 dX7_boards_174 kd_355 (by decide) (fun x20 => ?_)
      refine s_l2i dX7_boards_175 ?_
      exact s_iret hX dX7_boards_176
    · refine s_bipush dX7_boards_29 (by decide) ?_
      exact s_iret hX dX7_boards_31
  · refine s_iconst dX7_boards_12 ?_
    exact s_iret hX dX7_boards_13
abbrev rmX7_slack : Room := { frames := 8, cells := 0, slots := 0, locals := 183 }
abbrev SX7_slack (B : Nat) (X : Ctx) := Sim cX7_slack RX7 4 rmX7_slack B X
set_option maxHeartbeats 4000000 in
set_option maxRecDepth 100000 in
theorem ctX7_slack (B fu : Nat) (a0 : Int) (a1 : Int) (σ : Mem) : CtI yX7_slack cX7_slack 4 (some .int) rmX7_slack B [rv B 328, iv a0, iv a1] σ (fX7_slack fu a0 a1 σ) := by
  refine ctI_intro (own := RX7) (lv := [(0, rv B 328), (1, iv a0), (2, iv a1)]) (by decide +kernel) rfl (Nat.le_of_ble_eq_true rfl) rfl (fun X hX => ?_)
  unfold fX7_slack
  refine s_aload_n 0 dX7_slack_0 rfl rfl ?_
  refine s_iconst dX7_slack_1 ?_
  refine s_puti dX7_slack_2 ly7 ty7 fl_X7_116 kd_328 rfl po7_20 ⟨rfl, rfl, by decide⟩ (fun s1 => ?_)
  refine s_aload_n 0 dX7_slack_5 rfl rfl ?_
  refine s_iload_n 1 dX7_slack_6 rfl rfl ?_
  refine s_iload_n 2 dX7_slack_7 rfl rfl ?_
  refine s_Vi (rest := []) dX7_slack_8 lk_X7_252 meX7_isStep (ctX7_isStep B fu a0 a1 s1) kd_328 ⟨rfl, by decide⟩ rfl rfl ⟨rfl, rfl, by decide, by decide⟩ (Nat.le_of_ble_eq_true rfl) (fun x1 s2 => ?_)
  refine s_if_ne (tgt := 16) dX7_slack_11 (by decide) ?_ ?_
  · refine s_aload_n 0 dX7_slack_16 rfl rfl ?_
    refine s_Vv (rest := []) dX7_slack_17 lk_X7_246 meX7_laysCosts (ctX7_laysCosts B fu s2) kd_328 ⟨rfl, by decide⟩ rfl rfl ⟨rfl, rfl, by decide, by decide⟩ (Nat.le_of_ble_eq_true rfl) (fun _ s3 => ?_)
    refine s_aload_n 0 dX7_slack_20 rfl rfl ?_
    refine s_getr (n := 2) (k' := 331) dX7_slack_21 ly7 fl_X7_16 kd_328 rfl rfl rfl ?_
    refine s_iload_n 1 dX7_slack_24 rfl rfl ?_
    refine s_iload_n 2 dX7_slack_25 rfl rfl ?_
    refine s_Si (rest := [rv B 331]) dX7_slack_26 lk_X7_165 meX7_at (ctX7_at B fu a0 a1 s3) rfl rfl ⟨rfl, rfl, by decide, by decide⟩ (Nat.le_of_ble_eq_true rfl) (fun x2 s4 => ?_)
    refine s_iald 96 dX7_slack_29 kd_331 (by decide) (fun x3 => ?_)
    refine s_istore_n (lv' := [(3, iv x3), (0, rv B 328), (1, iv a0), (2, iv a1)]) dX7_slack_30 rfl (by decide) rfl ?_
    refine s_aload_n 1 dX7_slack_31 rfl rfl ?_
    refine s_iload_n 2 dX7_slack_32 rfl rfl ?_
    refine s_iload_n 3 dX7_slack_33 rfl rfl ?_
    refine s_Vl (rest := []) dX7_slack_34 lk_X7_221 meX7_boardingAt (ctX7_boardingAt B fu a0 a1 s4) kd_328 ⟨rfl, by decide⟩ rfl rfl ⟨rfl, rfl, by decide, by decide⟩ (Nat.le_of_ble_eq_true rfl) (fun x4 s5 => ?_)
    refine s_lconst (x := 0) dX7_slack_37 (by decide) ?_
    refine s_jn (fun (j1 : Mem → PR) => ∀ (s11 : Mem), SX7_slack B X (j1 s11) s11 70 [] []) ?_ (fun j1 hj1 => ?_)
    · intro s6
      refine s_bipush dX7_slack_70 (by decide) ?_
      exact s_iret hX dX7_slack_72
    · refine s_lif_lt (tgt := 70) dX7_slack_38 dX7_slack_39 (by decide) ?_ ?_
      · exact s_sub [] rfl (hj1 s5)
      · refine s_aload_n 1 dX7_slack_42 rfl rfl ?_
        refine s_getr (n := 17) (k' := 346) dX7_slack_43 ly7 fl_X7_68 kd_328 rfl rfl rfl ?_
        refine s_iload_n 0 dX7_slack_46 rfl rfl ?_
        refine s_lald 10 dX7_slack_47 kd_346 (by decide) (fun x5 => ?_)
        refine s_lconst (x := 0) dX7_slack_48 (by decide) ?_
        refine s_lif_lt (tgt := 70) dX7_slack_49 dX7_slack_50 (by decide) ?_ ?_
        · exact s_sub [] rfl (hj1 s5)
        · refine s_iload_n 0 dX7_slack_53 rfl rfl ?_
          refine s_aload_n 1 dX7_slack_54 rfl rfl ?_
          refine s_geti dX7_slack_55 ly7 fl_X7_197 kd_328 rfl ?_
          refine s_icmp_eq (tgt := 70) dX7_slack_58 (by decide) ?_ ?_
          · exact s_sub [] rfl (hj1 s5)
          · refine s_aload_n 1 dX7_slack_61 rfl rfl ?_
            refine s_getr (n := 8) (k' := 337) dX7_slack_62 ly7 fl_X7_35 kd_328 rfl rfl rfl ?_
            refine s_iload_n 2 dX7_slack_65 rfl rfl ?_
            refine s_zald 12 dX7_slack_66 kd_337 (by decide) (fun x6 => ?_)
            refine s_if_eq (tgt := 73) dX7_slack_67 (by decide) ?_ ?_
            · refine s_aload_n 1 dX7_slack_73 rfl rfl ?_
              refine s_iload_n 2 dX7_slack_74 rfl rfl ?_
              refine s_iload_n 0 dX7_slack_75 rfl rfl ?_
              refine s_Vi (rest := []) dX7_slack_76 lk_X7_255 meX7_isInSet (ctX7_isInSet B fu a0 x3 s5) kd_328 ⟨rfl, by decide⟩ rfl rfl ⟨rfl, rfl, by decide, by decide⟩ (Nat.le_of_ble_eq_true rfl) (fun x7 s7 => ?_)
              refine s_jn (fun (j2 : Int → Mem → PR) => ∀ (x8 : Int) (s10 : Mem), SX7_slack B X (j2 x8 s10) s10 102 [] [iv x8]) ?_ (fun j2 hj2 => ?_)
              · intro x8 s8
                exact s_iret hX dX7_slack_102
              · refine s_if_eq (tgt := 86) dX7_slack_79 (by decide) ?_ ?_
                · refine s_aload_n 1 dX7_slack_86 rfl rfl ?_
                  refine s_iload_n 2 dX7_slack_87 rfl rfl ?_
                  refine s_iload_n 3 dX7_slack_88 rfl rfl ?_
                  refine s_Vl (rest := []) dX7_slack_89 lk_X7_221 meX7_boardingAt (ctX7_boardingAt B fu a0 a1 s7) kd_328 ⟨rfl, by decide⟩ rfl rfl ⟨rfl, rfl, by decide, by decide⟩ (Nat.le_of_ble_eq_true rfl) (fun x9 s9 => ?_)
                  refine s_lconst (x := 1) dX7_slack_92 (by decide) ?_
                  refine s_ladd dX7_slack_93 ?_
                  refine s_aload_n 1 dX7_slack_94 rfl rfl ?_
                  refine s_getr (n := 17) (k' := 346) dX7_slack_95 ly7 fl_X7_68 kd_328 rfl rfl rfl ?_
                  refine s_iload_n 0 dX7_slack_98 rfl rfl ?_
                  refine s_lald 10 dX7_slack_99 kd_346 (by decide) (fun x10 => ?_)
                  refine s_lsub dX7_slack_100 ?_
                  refine s_l2i dX7_slack_101 ?_
                  exact s_sub [] rfl (hj2 ((x9 + 1) - x10) s9)
                · refine s_iconst dX7_slack_82 ?_
                  refine s_goto (tgt := 102) dX7_slack_83 (by decide) ?_
                  exact s_sub [] rfl (hj2 0 s7)
            · exact s_sub [] rfl (hj1 s5)
  · refine s_iconst dX7_slack_14 ?_
    exact s_iret hX dX7_slack_15
abbrev rmX7_reach : Room := { frames := 8, cells := 0, slots := 0, locals := 183 }
abbrev SX7_reach (B : Nat) (X : Ctx) := Sim cX7_reach RX7 5 rmX7_reach B X
set_option maxHeartbeats 4000000 in
set_option maxRecDepth 100000 in
theorem fX7_reach_L22_s {B fu : Nat} {X : Ctx} (hX : CxI .int B X) (c1 : Int) (k73 : Int → Int → Mem → PR) (hk73 : ∀ (x4 : Int) (x5 : Int) (s7 : Mem), SX7_reach B X (k73 x4 x5 s7) s7 73 [(0, rv B 328), (2, iv x4), (3, iv x5)] []) : ∀ (n : Nat) (x1 : Int) (x2 : Int) (x3 : Int) (s6 : Mem), SX7_reach B X (fX7_reach_L22 fu c1 k73 n x1 x2 x3 s6) s6 22 [(0, rv B 328), (1, iv c1), (2, iv x1), (3, iv x2), (4, iv x3)] [] := by
  intro n
  induction n with
  | zero => intro _ _ _ _; exact s_none
  | succ n ih =>
    intro x1 x2 x3 s3
    rw [fX7_reach_L22]
    refine s_iload 4 dX7_reach_22 rfl ?_
    refine s_bipush dX7_reach_24 (by decide) ?_
    refine s_icmp_ge (tgt := 73) dX7_reach_26 (by decide) ?_ ?_
    · exact s_sub [0, 2, 3] rfl (hk73 x1 x2 s3)
    · refine s_aload_n 0 dX7_reach_29 rfl rfl ?_
      refine s_getr (n := 17) (k' := 346) dX7_reach_30 ly7 fl_X7_68 kd_328 rfl rfl rfl ?_
      refine s_iload 4 dX7_reach_33 rfl ?_
      refine s_lald 10 dX7_reach_35 kd_346 (by decide) (fun x6 => ?_)
      refine s_lconst (x := 0) dX7_reach_36 (by decide) ?_
      refine s_jn (fun (j1 : Int → Int → Mem → PR) => ∀ (x7 : Int) (x8 : Int) (s5 : Mem), SX7_reach B X (j1 x7 x8 s5) s5 67 [(0, rv B 328), (1, iv c1), (2, iv x7), (3, iv x8), (4, iv x3)] []) ?_ (fun j1 hj1 => ?_)
      · intro x7 x8 s4
        refine s_iinc (lv' := [(4, iv (x3 + 1)), (0, rv B 328), (1, iv c1), (2, iv x7), (3, iv x8)]) 4 dX7_reach_67 rfl (by decide) rfl ?_
        refine s_goto (tgt := 22) dX7_reach_70 (by decide) ?_
        exact s_sub [1, 2, 3, 4, 0] rfl (ih x7 x8 (x3 + 1) s4)
      · refine s_lif_lt (tgt := 67) dX7_reach_37 dX7_reach_38 (by decide) ?_ ?_
        · exact hj1 x1 x2 s3
        · refine s_aload_n 0 dX7_reach_41 rfl rfl ?_
          refine s_getr (n := 17) (k' := 346) dX7_reach_42 ly7 fl_X7_68 kd_328 rfl rfl rfl ?_
          refine s_iload 4 dX7_reach_45 rfl ?_
          refine s_lald 10 dX7_reach_47 kd_346 (by decide) (fun x9 => ?_)
          refine s_iload_n 1 dX7_reach_48 rfl rfl ?_
          refine s_i2l dX7_reach_49 ?_
          refine s_lif_le (tgt := 57) dX7_reach_50 dX7_reach_51 (by decide) ?_ ?_
          · refine s_iload_n 2 dX7_reach_57 rfl rfl ?_
            refine s_iconst dX7_reach_58 ?_
            refine s_iload 4 dX7_reach_59 rfl ?_
            refine s_ishl dX7_reach_61 ?_
            refine s_ior dX7_reach_62 ?_
            refine s_lti (fun x10 => ?_)
            refine s_istore_n (lv' := [(2, iv x10), (0, rv B 328), (1, iv c1), (3, iv x2), (4, iv x3)]) dX7_reach_63 rfl (by decide) rfl ?_
            refine s_iinc (lv' := [(3, iv (x2 + 1)), (2, iv x10), (0, rv B 328), (1, iv c1), (4, iv x3)]) 3 dX7_reach_64 rfl (by decide) rfl ?_
            exact s_sub [2, 3, 1, 0, 4] rfl (hj1 x10 (x2 + 1) s3)
          · refine s_goto (tgt := 67) dX7_reach_54 (by decide) ?_
            exact hj1 x1 x2 s3
set_option maxHeartbeats 4000000 in
set_option maxRecDepth 100000 in
theorem ctX7_reach (B fu : Nat) (a0 : Int) (σ : Mem) : CtI yX7_reach cX7_reach 5 (some .int) rmX7_reach B [rv B 328, iv a0] σ (fX7_reach fu a0 σ) := by
  refine ctI_intro (own := RX7) (lv := [(0, rv B 328), (1, iv a0)]) (by decide +kernel) rfl (Nat.le_of_ble_eq_true rfl) rfl (fun X hX => ?_)
  unfold fX7_reach
  refine s_aload_n 0 dX7_reach_0 rfl rfl ?_
  refine s_iconst dX7_reach_1 ?_
  refine s_puti dX7_reach_2 ly7 ty7 fl_X7_116 kd_328 rfl po7_20 ⟨rfl, rfl, by decide⟩ (fun s1 => ?_)
  refine s_iload_n 1 dX7_reach_5 rfl rfl ?_
  refine s_if_ge (tgt := 11) dX7_reach_6 (by decide) ?_ ?_
  · refine s_aload_n 0 dX7_reach_11 rfl rfl ?_
    refine s_Vv (rest := []) dX7_reach_12 lk_X7_246 meX7_laysCosts (ctX7_laysCosts B fu s1) kd_328 ⟨rfl, by decide⟩ rfl rfl ⟨rfl, rfl, by decide, by decide⟩ (Nat.le_of_ble_eq_true rfl) (fun _ s2 => ?_)
    refine s_iconst dX7_reach_15 ?_
    refine s_istore_n (lv' := [(2, iv 0), (0, rv B 328), (1, iv a0)]) dX7_reach_16 rfl (by decide) rfl ?_
    refine s_iconst dX7_reach_17 ?_
    refine s_istore_n (lv' := [(3, iv 0), (2, iv 0), (0, rv B 328), (1, iv a0)]) dX7_reach_18 rfl (by decide) rfl ?_
    refine s_iconst dX7_reach_19 ?_
    refine s_istore (lv' := [(4, iv 0), (3, iv 0), (2, iv 0), (0, rv B 328), (1, iv a0)]) dX7_reach_20 (by decide) rfl ?_
    refine s_sub [3, 4, 2, 1, 0] (lv' := [(0, rv B 328), (1, iv a0), (2, iv 0), (3, iv 0), (4, iv 0)]) rfl ?_
    refine fX7_reach_L22_s hX a0 _ ?_ fu 0 0 0 s2
    intro x11 x12 s8
    refine s_aload_n 0 dX7_reach_73 rfl rfl ?_
    refine s_iconst dX7_reach_74 ?_
    refine s_puti dX7_reach_75 ly7 ty7 fl_X7_119 kd_328 rfl po7_19 ⟨rfl, rfl, by decide⟩ (fun s9 => ?_)
    refine s_aload_n 0 dX7_reach_78 rfl rfl ?_
    refine s_iload_n 1 dX7_reach_79 rfl rfl ?_
    refine s_i2l dX7_reach_80 ?_
    refine s_Vv (rest := []) dX7_reach_81 lk_X7_211 meX7_tell (ctX7_tell B fu (w32 x11) s9) kd_328 ⟨rfl, by decide⟩ rfl rfl ⟨rfl, rfl, by decide, by decide⟩ (Nat.le_of_ble_eq_true rfl) (fun _ s10 => ?_)
    refine s_iload_n 2 dX7_reach_84 rfl rfl ?_
    exact s_iret hX dX7_reach_85
  · refine s_iconst dX7_reach_9 ?_
    exact s_iret hX dX7_reach_10
abbrev rmX7_between : Room := { frames := 8, cells := 0, slots := 0, locals := 183 }
abbrev SX7_between (B : Nat) (X : Ctx) := Sim cX7_between RX7 4 rmX7_between B X
set_option maxHeartbeats 4000000 in
set_option maxRecDepth 100000 in
theorem ctX7_between (B fu : Nat) (a0 : Int) (a1 : Int) (σ : Mem) : CtI yX7_between cX7_between 4 (some .int) rmX7_between B [rv B 328, iv a0, iv a1] σ (fX7_between fu a0 a1 σ) := by
  refine ctI_intro (own := RX7) (lv := [(0, rv B 328), (1, iv a0), (2, iv a1)]) (by decide +kernel) rfl (Nat.le_of_ble_eq_true rfl) rfl (fun X hX => ?_)
  unfold fX7_between
  refine s_aload_n 0 dX7_between_0 rfl rfl ?_
  refine s_iconst dX7_between_1 ?_
  refine s_puti dX7_between_2 ly7 ty7 fl_X7_116 kd_328 rfl po7_20 ⟨rfl, rfl, by decide⟩ (fun s1 => ?_)
  refine s_iload_n 1 dX7_between_5 rfl rfl ?_
  refine s_Si (rest := []) dX7_between_6 lk_X7_162 meX7_isStop (ctX7_isStop B fu a0 s1) rfl rfl ⟨rfl, rfl, by decide, by decide⟩ (Nat.le_of_ble_eq_true rfl) (fun x1 s2 => ?_)
  refine s_jn (fun (j1 : Mem → PR) => ∀ (s10 : Mem), SX7_between B X (j1 s10) s10 19 [] []) ?_ (fun j1 hj1 => ?_)
  · intro s3
    refine s_iconst dX7_between_19 ?_
    exact s_iret hX dX7_between_20
  · refine s_if_eq (tgt := 19) dX7_between_9 (by decide) ?_ ?_
    · exact s_sub [] rfl (hj1 s2)
    · refine s_iload_n 2 dX7_between_12 rfl rfl ?_
      refine s_Si (rest := []) dX7_between_13 lk_X7_162 meX7_isStop (ctX7_isStop B fu a1 s2) rfl rfl ⟨rfl, rfl, by decide, by decide⟩ (Nat.le_of_ble_eq_true rfl) (fun x2 s4 => ?_)
      refine s_if_ne (tgt := 21) dX7_between_16 (by decide) ?_ ?_
      · refine s_aload_n 0 dX7_between_21 rfl rfl ?_
        refine s_geti dX7_between_22 ly7 fl_X7_197 kd_328 rfl ?_
        refine s_lti (fun x3 => ?_)
        refine s_istore_n (lv' := [(3, iv x3), (0, rv B 328), (1, iv a0), (2, iv a1)]) dX7_between_25 rfl (by decide) rfl ?_
        refine s_aload_n 1 dX7_between_26 rfl rfl ?_
        refine s_iload_n 3 dX7_between_27 rfl rfl ?_
        refine s_puti dX7_between_28 ly7 ty7 fl_X7_197 kd_328 rfl po7_11 ⟨rfl, rfl, by decide⟩ (fun s5 => ?_)
        refine s_aload_n 1 dX7_between_31 rfl rfl ?_
        refine s_Vv (rest := []) dX7_between_32 lk_X7_246 meX7_laysCosts (ctX7_laysCosts B fu s5) kd_328 ⟨rfl, by decide⟩ rfl rfl ⟨rfl, rfl, by decide, by decide⟩ (Nat.le_of_ble_eq_true rfl) (fun _ s6 => ?_)
        refine s_aload_n 1 dX7_between_35 rfl rfl ?_
        refine s_iload_n 0 dX7_between_36 rfl rfl ?_
        refine s_puti dX7_between_37 ly7 ty7 fl_X7_197 kd_328 rfl po7_11 ⟨rfl, rfl, by decide⟩ (fun s7 => ?_)
        refine s_aload_n 1 dX7_between_40 rfl rfl ?_
        refine s_getr (n := 17) (k' := 346) dX7_between_41 ly7 fl_X7_68 kd_328 rfl rfl rfl ?_
        refine s_iload_n 2 dX7_between_44 rfl rfl ?_
        refine s_lald 10 dX7_between_45 kd_346 (by decide) (fun x4 => ?_)
        refine s_lconst (x := 0) dX7_between_46 (by decide) ?_
        refine s_lif_ge (tgt := 54) dX7_between_47 dX7_between_48 (by decide) ?_ ?_
        · refine s_aload_n 1 dX7_between_54 rfl rfl ?_
          refine s_iconst dX7_between_55 ?_
          refine s_puti dX7_between_56 ly7 ty7 fl_X7_119 kd_328 rfl po7_19 ⟨rfl, rfl, by decide⟩ (fun s8 => ?_)
          refine s_aload_n 1 dX7_between_59 rfl rfl ?_
          refine s_aload_n 1 dX7_between_60 rfl rfl ?_
          refine s_geti dX7_between_61 ly7 fl_X7_239 kd_328 rfl ?_
          refine s_i2l dX7_between_64 ?_
          refine s_Vv (rest := []) dX7_between_65 lk_X7_211 meX7_tell (ctX7_tell B fu (w32 (s8 328 36)) s8) kd_328 ⟨rfl, by decide⟩ rfl rfl ⟨rfl, rfl, by decide, by decide⟩ (Nat.le_of_ble_eq_true rfl) (fun _ s9 => ?_)
          refine s_aload_n 1 dX7_between_68 rfl rfl ?_
          refine s_getr (n := 17) (k' := 346) dX7_between_69 ly7 fl_X7_68 kd_328 rfl rfl rfl ?_
          refine s_iload_n 2 dX7_between_72 rfl rfl ?_
          refine s_lald 10 dX7_between_73 kd_346 (by decide) (fun x5 => ?_)
          refine s_l2i dX7_between_74 ?_
          exact s_iret hX dX7_between_75
        · refine s_bipush dX7_between_51 (by decide) ?_
          exact s_iret hX dX7_between_53
      · exact s_sub [] rfl (hj1 s4)
abbrev rmX7_passesOn : Room := { frames := 2, cells := 0, slots := 0, locals := 44 }
abbrev SX7_passesOn (B : Nat) (X : Ctx) := Sim cX7_passesOn RX7 13 rmX7_passesOn B X
set_option maxHeartbeats 4000000 in
set_option maxRecDepth 100000 in
theorem fX7_passesOn_L21_s {B fu : Nat} {X : Ctx} (hX : CxV B X) (c1 : Int) (c2 : Int) (k71 : Int → Mem → PR) (hk71 : ∀ (x6 : Int) (s3 : Mem), SX7_passesOn B X (k71 x6 s3) s3 71 [(0, rv B 328), (1, iv c1), (2, jv c2), (4, jv x6)] []) : ∀ (n : Nat) (x4 : Int) (x5 : Int) (s2 : Mem), SX7_passesOn B X (fX7_passesOn_L21 fu c1 c2 k71 n x4 x5 s2) s2 21 [(0, rv B 328), (1, iv c1), (2, jv c2), (4, jv x4), (6, iv x5)] [] := by
  intro n
  induction n with
  | zero => intro _ _ _; exact s_none
  | succ n ih =>
    intro x4 x5 s1
    rw [fX7_passesOn_L21]
    refine s_iload 4 dX7_passesOn_21 rfl ?_
    refine s_aload_n 0 dX7_passesOn_23 rfl rfl ?_
    refine s_getr (n := 23) (k' := 352) dX7_passesOn_24 ly7 fl_X7_86 kd_328 rfl rfl rfl ?_
    refine s_iload_n 1 dX7_passesOn_27 rfl rfl ?_
    refine s_iald 10 dX7_passesOn_28 kd_352 (by decide) (fun x7 => ?_)
    refine s_icmp_ge (tgt := 71) dX7_passesOn_29 (by decide) ?_ ?_
    · exact s_sub [0, 1, 2, 3] rfl (hk71 x4 s1)
    · refine s_lload 3 dX7_passesOn_32 rfl ?_
      refine s_lload_n 2 dX7_passesOn_34 rfl rfl ?_
      refine s_aload_n 0 dX7_passesOn_35 rfl rfl ?_
      refine s_getr (n := 0) (k' := 329) dX7_passesOn_36 ly7 fl_X7_9 kd_328 rfl rfl rfl ?_
      refine s_aload_n 0 dX7_passesOn_39 rfl rfl ?_
      refine s_getr (n := 22) (k' := 351) dX7_passesOn_40 ly7 fl_X7_83 kd_328 rfl rfl rfl ?_
      refine s_bipush dX7_passesOn_43 (by decide) ?_
      refine s_iload_n 1 dX7_passesOn_45 rfl rfl ?_
      refine s_imul dX7_passesOn_46 ?_
      refine s_iload 4 dX7_passesOn_47 rfl ?_
      refine s_iadd dX7_passesOn_49 ?_
      refine s_iald 120 dX7_passesOn_50 kd_351 (by decide) (fun x8 => ?_)
      refine s_iald 12 dX7_passesOn_51 kd_329 (by decide) (fun x9 => ?_)
      refine s_i2l dX7_passesOn_52 ?_
      refine s_lmul dX7_passesOn_53 ?_
      refine s_aload_n 0 dX7_passesOn_54 rfl rfl ?_
      refine s_getr (n := 21) (k' := 350) dX7_passesOn_55 ly7 fl_X7_80 kd_328 rfl rfl rfl ?_
      refine s_iload_n 1 dX7_passesOn_58 rfl rfl ?_
      refine s_iald 10 dX7_passesOn_59 kd_350 (by decide) (fun x10 => ?_)
      refine s_i2l dX7_passesOn_60 ?_
      refine s_ldiv dX7_passesOn_61 ?_
      refine s_lsub dX7_passesOn_62 ?_
      refine s_ltl (fun x11 => ?_)
      refine s_lstore (lv' := [(4, jv x11), (0, rv B 328), (1, iv c1), (2, jv c2), (6, iv x5)]) dX7_passesOn_63 (by decide) rfl ?_
      refine s_iinc (lv' := [(6, iv (x5 + 1)), (4, jv x11), (0, rv B 328), (1, iv c1), (2, jv c2)]) 4 dX7_passesOn_65 rfl (by decide) rfl ?_
      refine s_goto (tgt := 21) dX7_passesOn_68 (by decide) ?_
      exact s_sub [2, 3, 4, 1, 0] rfl (ih x11 (x5 + 1) s1)
set_option maxHeartbeats 4000000 in
set_option maxRecDepth 100000 in
theorem fX7_passesOn_L210_s {B fu : Nat} {X : Ctx} (hX : CxV B X) (c6 : Int) (c7 : Int) (c8 : Int) (c9 : Int) (c10 : Int) (c11 : Int) (c12 : Int) (k240 : Mem → PR) (hk240 : ∀ (s19 : Mem), SX7_passesOn B X (k240 s19) s19 240 [(0, rv B 328), (1, iv c6), (2, jv c7), (4, jv c8), (6, iv c9)] []) : ∀ (n : Nat) (x29 : Int) (s18 : Mem), SX7_passesOn B X (fX7_passesOn_L210 fu c6 c7 c8 c9 c10 c11 c12 k240 n x29 s18) s18 210 [(0, rv B 328), (1, iv c6), (2, jv c7), (4, jv c8), (6, iv c9), (7, iv c10), (9, iv c11), (10, jv c12), (12, iv x29)] [] := by
  intro n
  induction n with
  | zero => intro _ _; exact s_none
  | succ n ih =>
    intro x29 s15
    rw [fX7_passesOn_L210]
    refine s_iload 8 dX7_passesOn_210 rfl ?_
    refine s_iload 6 dX7_passesOn_212 rfl ?_
    refine s_icmp_ge (tgt := 240) dX7_passesOn_214 (by decide) ?_ ?_
    · exact s_sub [0, 1, 2, 3, 4] rfl (hk240 s15)
    · refine s_aload_n 0 dX7_passesOn_217 rfl rfl ?_
      refine s_getr (n := 27) (k' := 356) dX7_passesOn_218 ly7 fl_X7_101 kd_328 rfl rfl rfl ?_
      refine s_iload 5 dX7_passesOn_221 rfl ?_
      refine s_iload 8 dX7_passesOn_223 rfl ?_
      refine s_Si (rest := [rv B 356]) dX7_passesOn_225 lk_X7_165 meX7_at (ctX7_at B fu c10 x29 s15) rfl rfl ⟨rfl, rfl, by decide, by decide⟩ (Nat.le_of_ble_eq_true rfl) (fun x30 s16 => ?_)
      refine s_dup2 dX7_passesOn_228 rfl rfl ?_
      refine s_lald 96 dX7_passesOn_229 kd_356 (by decide) (fun x31 => ?_)
      refine s_lload 7 dX7_passesOn_230 rfl ?_
      refine s_ladd dX7_passesOn_232 ?_
      refine s_last 96 dX7_passesOn_233 kd_356 (by decide) (fun s17 => ?_)
      refine s_iinc (lv' := [(12, iv (x29 + 1)), (0, rv B 328), (1, iv c6), (2, jv c7), (4, jv c8), (6, iv c9), (7, iv c10), (9, iv c11), (10, jv c12)]) 8 dX7_passesOn_234 rfl (by decide) rfl ?_
      refine s_goto (tgt := 210) dX7_passesOn_237 (by decide) ?_
      exact s_sub [1, 2, 3, 4, 5, 6, 7, 8, 0] rfl (ih (x29 + 1) s17)
set_option maxHeartbeats 4000000 in
set_option maxRecDepth 100000 in
theorem fX7_passesOn_L74_s {B fu : Nat} {X : Ctx} (hX : CxV B X) (c3 : Int) (c4 : Int) (c5 : Int) (k246 : Mem → PR) (hk246 : ∀ (s23 : Mem), SX7_passesOn B X (k246 s23) s23 246 [] []) : ∀ (n : Nat) (x13 : Int) (s22 : Mem), SX7_passesOn B X (fX7_passesOn_L74 fu c3 c4 c5 k246 n x13 s22) s22 74 [(0, rv B 328), (1, iv c3), (2, jv c4), (4, jv c5), (6, iv x13)] [] := by
  intro n
  induction n with
  | zero => intro _ _; exact s_none
  | succ n ih =>
    intro x13 s5
    rw [fX7_passesOn_L74]
    refine s_iload 4 dX7_passesOn_74 rfl ?_
    refine s_aload_n 0 dX7_passesOn_76 rfl rfl ?_
    refine s_getr (n := 23) (k' := 352) dX7_passesOn_77 ly7 fl_X7_86 kd_328 rfl rfl rfl ?_
    refine s_iload_n 1 dX7_passesOn_80 rfl rfl ?_
    refine s_iald 10 dX7_passesOn_81 kd_352 (by decide) (fun x14 => ?_)
    refine s_icmp_ge (tgt := 246) dX7_passesOn_82 (by decide) ?_ ?_
    · exact s_sub [] rfl (hk246 s5)
    · refine s_aload_n 0 dX7_passesOn_85 rfl rfl ?_
      refine s_getr (n := 22) (k' := 351) dX7_passesOn_86 ly7 fl_X7_83 kd_328 rfl rfl rfl ?_
      refine s_bipush dX7_passesOn_89 (by decide) ?_
      refine s_iload_n 1 dX7_passesOn_91 rfl rfl ?_
      refine s_imul dX7_passesOn_92 ?_
      refine s_iload 4 dX7_passesOn_93 rfl ?_
      refine s_iadd dX7_passesOn_95 ?_
      refine s_iald 120 dX7_passesOn_96 kd_351 (by decide) (fun x15 => ?_)
      refine s_istore (lv' := [(7, iv x15), (0, rv B 328), (1, iv c3), (2, jv c4), (4, jv c5), (6, iv x13)]) dX7_passesOn_97 (by decide) rfl ?_
      refine s_aload_n 1 dX7_passesOn_99 rfl rfl ?_
      refine s_iload 0 dX7_passesOn_100 rfl ?_
      refine s_iload_n 2 dX7_passesOn_102 rfl rfl ?_
      refine s_Vi (rest := []) dX7_passesOn_103 lk_X7_224 meX7_placeOf (ctX7_placeOf B fu x15 c3 s5) kd_328 ⟨rfl, by decide⟩ rfl rfl ⟨rfl, rfl, by decide, by decide⟩ (Nat.le_of_ble_eq_true rfl) (fun x16 s6 => ?_)
      refine s_istore (lv' := [(8, iv x16), (7, iv x15), (0, rv B 328), (1, iv c3), (2, jv c4), (4, jv c5), (6, iv x13)]) dX7_passesOn_106 (by decide) rfl ?_
      refine s_aload_n 2 dX7_passesOn_108 rfl rfl ?_
      refine s_iload 1 dX7_passesOn_109 rfl ?_
      refine s_iload 0 dX7_passesOn_111 rfl ?_
      refine s_Vi (rest := []) dX7_passesOn_113 lk_X7_266 meX7_leaves (ctX7_leaves B fu x15 x16 s6) kd_328 ⟨rfl, by decide⟩ rfl rfl ⟨rfl, rfl, by decide, by decide⟩ (Nat.le_of_ble_eq_true rfl) (fun x17 s7 => ?_)
      refine s_istore (lv' := [(9, iv x17), (8, iv x16), (7, iv x15), (0, rv B 328), (1, iv c3), (2, jv c4), (4, jv c5), (6, iv x13)]) dX7_passesOn_116 (by decide) rfl ?_
      refine s_lload_n 5 dX7_passesOn_118 rfl rfl ?_
      refine s_aload_n 3 dX7_passesOn_119 rfl rfl ?_
      refine s_getr (n := 0) (k' := 329) dX7_passesOn_120 ly7 fl_X7_9 kd_328 rfl rfl rfl ?_
      refine s_iload 2 dX7_passesOn_123 rfl ?_
      refine s_iald 12 dX7_passesOn_125 kd_329 (by decide) (fun x18 => ?_)
      refine s_i2l dX7_passesOn_126 ?_
      refine s_lmul dX7_passesOn_127 ?_
      refine s_aload_n 3 dX7_passesOn_128 rfl rfl ?_
      refine s_getr (n := 21) (k' := 350) dX7_passesOn_129 ly7 fl_X7_80 kd_328 rfl rfl rfl ?_
      refine s_iload_n 4 dX7_passesOn_132 rfl rfl ?_
      refine s_iald 10 dX7_passesOn_133 kd_350 (by decide) (fun x19 => ?_)
      refine s_i2l dX7_passesOn_134 ?_
      refine s_ldiv dX7_passesOn_135 ?_
      refine s_iload 7 dX7_passesOn_136 rfl ?_
      refine s_jn (fun (j1 : Int → Mem → PR) => ∀ (x20 : Int) (s21 : Mem), SX7_passesOn B X (j1 x20 s21) s21 147 [(0, rv B 328), (1, iv c3), (2, jv c4), (4, jv c5), (6, iv x13), (7, iv x15), (8, iv x16), (9, iv x17)] [jv x20, jv (div64 (c4 * (w32 x18)) (w32 x19))]) ?_ (fun j1 hj1 => ?_)
      · intro x20 s8
        refine s_ladd dX7_passesOn_147 ?_
        refine s_ltl (fun x21 => ?_)
        refine s_lstore (lv' := [(10, jv x21), (0, rv B 328), (1, iv c3), (2, jv c4), (4, jv c5), (6, iv x13), (7, iv x15), (8, iv x16), (9, iv x17)]) dX7_passesOn_148 (by decide) rfl ?_
        refine s_aload_n 1 dX7_passesOn_150 rfl rfl ?_
        refine s_getr (n := 28) (k' := 357) dX7_passesOn_151 ly7 fl_X7_104 kd_328 rfl rfl rfl ?_
        refine s_iload 6 dX7_passesOn_154 rfl ?_
        refine s_iload 7 dX7_passesOn_156 rfl ?_
        refine s_Si (rest := [rv B 357]) dX7_passesOn_158 lk_X7_165 meX7_at (ctX7_at B fu x15 x16 s8) rfl rfl ⟨rfl, rfl, by decide, by decide⟩ (Nat.le_of_ble_eq_true rfl) (fun x22 s9 => ?_)
        refine s_dup2 dX7_passesOn_161 rfl rfl ?_
        refine s_lald 96 dX7_passesOn_162 kd_357 (by decide) (fun x23 => ?_)
        refine s_lload 0 dX7_passesOn_163 rfl ?_
        refine s_ladd dX7_passesOn_165 ?_
        refine s_last 96 dX7_passesOn_166 kd_357 (by decide) (fun s10 => ?_)
        refine s_aload_n 1 dX7_passesOn_167 rfl rfl ?_
        refine s_getr (n := 29) (k' := 358) dX7_passesOn_168 ly7 fl_X7_107 kd_328 rfl rfl rfl ?_
        refine s_iload 6 dX7_passesOn_171 rfl ?_
        refine s_iload 8 dX7_passesOn_173 rfl ?_
        refine s_Si (rest := [rv B 358]) dX7_passesOn_175 lk_X7_165 meX7_at (ctX7_at B fu x15 x17 s10) rfl rfl ⟨rfl, rfl, by decide, by decide⟩ (Nat.le_of_ble_eq_true rfl) (fun x24 s11 => ?_)
        refine s_dup2 dX7_passesOn_178 rfl rfl ?_
        refine s_lald 96 dX7_passesOn_179 kd_358 (by decide) (fun x25 => ?_)
        refine s_lload 0 dX7_passesOn_180 rfl ?_
        refine s_ladd dX7_passesOn_182 ?_
        refine s_last 96 dX7_passesOn_183 kd_358 (by decide) (fun s12 => ?_)
        refine s_aload_n 1 dX7_passesOn_184 rfl rfl ?_
        refine s_getr (n := 30) (k' := 359) dX7_passesOn_185 ly7 fl_X7_110 kd_328 rfl rfl rfl ?_
        refine s_aload_n 1 dX7_passesOn_188 rfl rfl ?_
        refine s_getr (n := 2) (k' := 331) dX7_passesOn_189 ly7 fl_X7_16 kd_328 rfl rfl rfl ?_
        refine s_iload 6 dX7_passesOn_192 rfl ?_
        refine s_iload 8 dX7_passesOn_194 rfl ?_
        refine s_Si (rest := [rv B 331, rv B 359]) dX7_passesOn_196 lk_X7_165 meX7_at (ctX7_at B fu x15 x17 s12) rfl rfl ⟨rfl, rfl, by decide, by decide⟩ (Nat.le_of_ble_eq_true rfl) (fun x26 s13 => ?_)
        refine s_iald 96 dX7_passesOn_199 kd_331 (by decide) (fun x27 => ?_)
        refine s_dup2 dX7_passesOn_200 rfl rfl ?_
        refine s_lald 10 dX7_passesOn_201 kd_359 (by decide) (fun x28 => ?_)
        refine s_lload 0 dX7_passesOn_202 rfl ?_
        refine s_ladd dX7_passesOn_204 ?_
        refine s_last 10 dX7_passesOn_205 kd_359 (by decide) (fun s14 => ?_)
        refine s_iload 7 dX7_passesOn_206 rfl ?_
        refine s_istore (lv' := [(12, iv x16), (10, jv x21), (0, rv B 328), (1, iv c3), (2, jv c4), (4, jv c5), (6, iv x13), (7, iv x15), (8, iv x16), (9, iv x17)]) dX7_passesOn_208 (by decide) rfl ?_
        refine s_sub [2, 3, 4, 5, 6, 7, 9, 1, 0] (lv' := [(0, rv B 328), (1, iv c3), (2, jv c4), (4, jv c5), (6, iv x13), (7, iv x15), (9, iv x17), (10, jv x21), (12, iv x16)]) rfl ?_
        refine fX7_passesOn_L210_s hX c3 c4 c5 x13 x15 x17 x21 _ ?_ fu x16 s14
        intro s20
        refine s_iinc (lv' := [(6, iv (x13 + 1)), (0, rv B 328), (1, iv c3), (2, jv c4), (4, jv c5)]) 4 dX7_passesOn_240 rfl (by decide) rfl ?_
        refine s_goto (tgt := 74) dX7_passesOn_243 (by decide) ?_
        exact s_sub [1, 2, 3, 4, 0] rfl (ih (x13 + 1) s20)
      · refine s_if_ne (tgt := 146) dX7_passesOn_138 (by decide) ?_ ?_
        · refine s_lconst (x := 0) dX7_passesOn_146 (by decide) ?_
          exact s_sub [3, 4, 5, 6, 7, 2, 1, 0] rfl (hj1 0 s7)
        · refine s_lload 6 dX7_passesOn_141 rfl ?_
          refine s_goto (tgt := 147) dX7_passesOn_143 (by decide) ?_
          exact s_sub [3, 4, 5, 6, 7, 2, 1, 0] rfl (hj1 c5 s7)
set_option maxHeartbeats 4000000 in
set_option maxRecDepth 100000 in
theorem ctX7_passesOn (B fu : Nat) (a0 : Int) (σ : Mem) : CtV yX7_passesOn cX7_passesOn 13 none rmX7_passesOn B [rv B 328, iv a0] σ (fX7_passesOn fu a0 σ) := by
  refine ctV_intro (own := RX7) (lv := [(0, rv B 328), (1, iv a0)]) (by decide +kernel) rfl (Nat.le_of_ble_eq_true rfl) rfl (fun X hX => ?_)
  unfold fX7_passesOn
  refine s_aload_n 0 dX7_passesOn_0 rfl rfl ?_
  refine s_getr (n := 9) (k' := 338) dX7_passesOn_1 ly7 fl_X7_43 kd_328 rfl rfl rfl ?_
  refine s_iload_n 1 dX7_passesOn_4 rfl rfl ?_
  refine s_iald 10 dX7_passesOn_5 kd_338 (by decide) (fun x1 => ?_)
  refine s_i2l dX7_passesOn_6 ?_
  refine s_aload_n 0 dX7_passesOn_7 rfl rfl ?_
  refine s_getr (n := 30) (k' := 359) dX7_passesOn_8 ly7 fl_X7_110 kd_328 rfl rfl rfl ?_
  refine s_iload_n 1 dX7_passesOn_11 rfl rfl ?_
  refine s_lald 10 dX7_passesOn_12 kd_359 (by decide) (fun x2 => ?_)
  refine s_ladd dX7_passesOn_13 ?_
  refine s_ltl (fun x3 => ?_)
  refine s_lstore_n (lv' := [(2, jv x3), (0, rv B 328), (1, iv a0)]) dX7_passesOn_14 rfl (by decide) rfl ?_
  refine s_lload_n 0 dX7_passesOn_15 rfl rfl ?_
  refine s_lstore (lv' := [(4, jv x3), (2, jv x3), (0, rv B 328), (1, iv a0)]) dX7_passesOn_16 (by decide) rfl ?_
  refine s_iconst dX7_passesOn_18 ?_
  refine s_istore (lv' := [(6, iv 0), (4, jv x3), (2, jv x3), (0, rv B 328), (1, iv a0)]) dX7_passesOn_19 (by decide) rfl ?_
  refine s_sub [3, 4, 2, 1, 0] (lv' := [(0, rv B 328), (1, iv a0), (2, jv x3), (4, jv x3), (6, iv 0)]) rfl ?_
  refine fX7_passesOn_L21_s hX a0 x3 _ ?_ fu x3 0 σ
  intro x12 s4
  refine s_iconst dX7_passesOn_71 ?_
  refine s_istore (lv' := [(6, iv 0), (0, rv B 328), (1, iv a0), (2, jv x3), (4, jv x12)]) dX7_passesOn_72 (by decide) rfl ?_
  refine s_sub [1, 2, 3, 4, 0] (lv' := [(0, rv B 328), (1, iv a0), (2, jv x3), (4, jv x12), (6, iv 0)]) rfl ?_
  refine fX7_passesOn_L74_s hX a0 x3 x12 _ ?_ fu 0 s4
  intro s24
  exact s_vret hX dX7_passesOn_246
abbrev rmX7_laysLoads : Room := { frames := 8, cells := 0, slots := 0, locals := 183 }
abbrev SX7_laysLoads (B : Nat) (X : Ctx) := Sim cX7_laysLoads RX7 2 rmX7_laysLoads B X
set_option maxHeartbeats 4000000 in
set_option maxRecDepth 100000 in
theorem fX7_laysLoads_L10_s {B fu : Nat} {X : Ctx} (hX : CxV B X) (k43 : Mem → PR) (hk43 : ∀ (s8 : Mem), SX7_laysLoads B X (k43 s8) s8 43 [(0, rv B 328)] []) : ∀ (n : Nat) (x1 : Int) (s7 : Mem), SX7_laysLoads B X (fX7_laysLoads_L10 fu k43 n x1 s7) s7 10 [(0, rv B 328), (1, iv x1)] [] := by
  intro n
  induction n with
  | zero => intro _ _; exact s_none
  | succ n ih =>
    intro x1 s3
    rw [fX7_laysLoads_L10]
    refine s_iload_n 1 dX7_laysLoads_10 rfl rfl ?_
    refine s_bipush dX7_laysLoads_11 (by decide) ?_
    refine s_icmp_ge (tgt := 43) dX7_laysLoads_13 (by decide) ?_ ?_
    · exact s_sub [0] rfl (hk43 s3)
    · refine s_aload_n 0 dX7_laysLoads_16 rfl rfl ?_
      refine s_getr (n := 27) (k' := 356) dX7_laysLoads_17 ly7 fl_X7_101 kd_328 rfl rfl rfl ?_
      refine s_iload_n 1 dX7_laysLoads_20 rfl rfl ?_
      refine s_lconst (x := 0) dX7_laysLoads_21 (by decide) ?_
      refine s_last 96 dX7_laysLoads_22 kd_356 (by decide) (fun s4 => ?_)
      refine s_aload_n 0 dX7_laysLoads_23 rfl rfl ?_
      refine s_getr (n := 28) (k' := 357) dX7_laysLoads_24 ly7 fl_X7_104 kd_328 rfl rfl rfl ?_
      refine s_iload_n 1 dX7_laysLoads_27 rfl rfl ?_
      refine s_lconst (x := 0) dX7_laysLoads_28 (by decide) ?_
      refine s_last 96 dX7_laysLoads_29 kd_357 (by decide) (fun s5 => ?_)
      refine s_aload_n 0 dX7_laysLoads_30 rfl rfl ?_
      refine s_getr (n := 29) (k' := 358) dX7_laysLoads_31 ly7 fl_X7_107 kd_328 rfl rfl rfl ?_
      refine s_iload_n 1 dX7_laysLoads_34 rfl rfl ?_
      refine s_lconst (x := 0) dX7_laysLoads_35 (by decide) ?_
      refine s_last 96 dX7_laysLoads_36 kd_358 (by decide) (fun s6 => ?_)
      refine s_iinc (lv' := [(1, iv (x1 + 1)), (0, rv B 328)]) 1 dX7_laysLoads_37 rfl (by decide) rfl ?_
      refine s_goto (tgt := 10) dX7_laysLoads_40 (by decide) ?_
      exact s_sub [1, 0] rfl (ih (x1 + 1) s6)
set_option maxHeartbeats 4000000 in
set_option maxRecDepth 100000 in
theorem fX7_laysLoads_L45_s {B fu : Nat} {X : Ctx} (hX : CxV B X) (k64 : Mem → PR) (hk64 : ∀ (s13 : Mem), SX7_laysLoads B X (k64 s13) s13 64 [(0, rv B 328)] []) : ∀ (n : Nat) (x2 : Int) (s12 : Mem), SX7_laysLoads B X (fX7_laysLoads_L45 fu k64 n x2 s12) s12 45 [(0, rv B 328), (1, iv x2)] [] := by
  intro n
  induction n with
  | zero => intro _ _; exact s_none
  | succ n ih =>
    intro x2 s10
    rw [fX7_laysLoads_L45]
    refine s_iload_n 1 dX7_laysLoads_45 rfl rfl ?_
    refine s_bipush dX7_laysLoads_46 (by decide) ?_
    refine s_icmp_ge (tgt := 64) dX7_laysLoads_48 (by decide) ?_ ?_
    · exact s_sub [0] rfl (hk64 s10)
    · refine s_aload_n 0 dX7_laysLoads_51 rfl rfl ?_
      refine s_getr (n := 30) (k' := 359) dX7_laysLoads_52 ly7 fl_X7_110 kd_328 rfl rfl rfl ?_
      refine s_iload_n 1 dX7_laysLoads_55 rfl rfl ?_
      refine s_lconst (x := 0) dX7_laysLoads_56 (by decide) ?_
      refine s_last 10 dX7_laysLoads_57 kd_359 (by decide) (fun s11 => ?_)
      refine s_iinc (lv' := [(1, iv (x2 + 1)), (0, rv B 328)]) 1 dX7_laysLoads_58 rfl (by decide) rfl ?_
      refine s_goto (tgt := 45) dX7_laysLoads_61 (by decide) ?_
      exact s_sub [1, 0] rfl (ih (x2 + 1) s11)
set_option maxHeartbeats 4000000 in
set_option maxRecDepth 100000 in
theorem fX7_laysLoads_L66_s {B fu : Nat} {X : Ctx} (hX : CxV B X) (k90 : Mem → PR) (hk90 : ∀ (s18 : Mem), SX7_laysLoads B X (k90 s18) s18 90 [] []) : ∀ (n : Nat) (x3 : Int) (s17 : Mem), SX7_laysLoads B X (fX7_laysLoads_L66 fu k90 n x3 s17) s17 66 [(0, rv B 328), (1, iv x3)] [] := by
  intro n
  induction n with
  | zero => intro _ _; exact s_none
  | succ n ih =>
    intro x3 s15
    rw [fX7_laysLoads_L66]
    refine s_iload_n 1 dX7_laysLoads_66 rfl rfl ?_
    refine s_aload_n 0 dX7_laysLoads_67 rfl rfl ?_
    refine s_geti dX7_laysLoads_68 ly7 fl_X7_258 kd_328 rfl ?_
    refine s_icmp_ge (tgt := 90) dX7_laysLoads_71 (by decide) ?_ ?_
    · exact s_sub [] rfl (hk90 s15)
    · refine s_aload_n 0 dX7_laysLoads_74 rfl rfl ?_
      refine s_aload_n 0 dX7_laysLoads_75 rfl rfl ?_
      refine s_getr (n := 25) (k' := 354) dX7_laysLoads_76 ly7 fl_X7_95 kd_328 rfl rfl rfl ?_
      refine s_iload_n 1 dX7_laysLoads_79 rfl rfl ?_
      refine s_iald 10 dX7_laysLoads_80 kd_354 (by decide) (fun x4 => ?_)
      refine s_Vv (rest := []) dX7_laysLoads_81 lk_X7_269 meX7_passesOn (ctX7_passesOn B fu x4 s15) kd_328 ⟨rfl, by decide⟩ rfl rfl ⟨rfl, rfl, by decide, by decide⟩ (Nat.le_of_ble_eq_true rfl) (fun _ s16 => ?_)
      refine s_iinc (lv' := [(1, iv (x3 + 1)), (0, rv B 328)]) 1 dX7_laysLoads_84 rfl (by decide) rfl ?_
      refine s_goto (tgt := 66) dX7_laysLoads_87 (by decide) ?_
      exact s_sub [1, 0] rfl (ih (x3 + 1) s16)
set_option maxHeartbeats 4000000 in
set_option maxRecDepth 100000 in
theorem ctX7_laysLoads (B fu : Nat) (σ : Mem) : CtV yX7_laysLoads cX7_laysLoads 2 none rmX7_laysLoads B [rv B 328] σ (fX7_laysLoads fu σ) := by
  refine ctV_intro (own := RX7) (lv := [(0, rv B 328)]) (by decide +kernel) rfl (Nat.le_of_ble_eq_true rfl) rfl (fun X hX => ?_)
  unfold fX7_laysLoads
  refine s_aload_n 0 dX7_laysLoads_0 rfl rfl ?_
  refine s_Vv (rest := []) dX7_laysLoads_1 lk_X7_246 meX7_laysCosts (ctX7_laysCosts B fu σ) kd_328 ⟨rfl, by decide⟩ rfl rfl ⟨rfl, rfl, by decide, by decide⟩ (Nat.le_of_ble_eq_true rfl) (fun _ s1 => ?_)
  refine s_aload_n 0 dX7_laysLoads_4 rfl rfl ?_
  refine s_Vv (rest := []) dX7_laysLoads_5 lk_X7_261 meX7_laysOrder (ctX7_laysOrder B fu s1) kd_328 ⟨rfl, by decide⟩ rfl rfl ⟨rfl, rfl, by decide, by decide⟩ (Nat.le_of_ble_eq_true rfl) (fun _ s2 => ?_)
  refine s_iconst dX7_laysLoads_8 ?_
  refine s_istore_n (lv' := [(1, iv 0), (0, rv B 328)]) dX7_laysLoads_9 rfl (by decide) rfl ?_
  refine s_sub [1, 0] (lv' := [(0, rv B 328), (1, iv 0)]) rfl ?_
  refine fX7_laysLoads_L10_s hX _ ?_ fu 0 s2
  intro s9
  refine s_iconst dX7_laysLoads_43 ?_
  refine s_istore_n (lv' := [(1, iv 0), (0, rv B 328)]) dX7_laysLoads_44 rfl (by decide) rfl ?_
  refine s_sub [1, 0] (lv' := [(0, rv B 328), (1, iv 0)]) rfl ?_
  refine fX7_laysLoads_L45_s hX _ ?_ fu 0 s9
  intro s14
  refine s_iconst dX7_laysLoads_64 ?_
  refine s_istore_n (lv' := [(1, iv 0), (0, rv B 328)]) dX7_laysLoads_65 rfl (by decide) rfl ?_
  refine s_sub [1, 0] (lv' := [(0, rv B 328), (1, iv 0)]) rfl ?_
  refine fX7_laysLoads_L66_s hX _ ?_ fu 0 s14
  intro s19
  exact s_vret hX dX7_laysLoads_90
abbrev rmX7_totalNow : Room := { frames := 0, cells := 0, slots := 0, locals := 0 }
abbrev SX7_totalNow (B : Nat) (X : Ctx) := Sim cX7_totalNow RX7 4 rmX7_totalNow B X
set_option maxHeartbeats 4000000 in
set_option maxRecDepth 100000 in
theorem fX7_totalNow_L4_s {B fu : Nat} {X : Ctx} (hX : CxL B X) (k48 : Int → Mem → PR) (hk48 : ∀ (x3 : Int) (s5 : Mem), SX7_totalNow B X (k48 x3 s5) s5 48 [(1, jv x3)] []) : ∀ (n : Nat) (x1 : Int) (x2 : Int) (s4 : Mem), SX7_totalNow B X (fX7_totalNow_L4 fu k48 n x1 x2 s4) s4 4 [(0, rv B 328), (1, jv x1), (3, iv x2)] [] := by
  intro n
  induction n with
  | zero => intro _ _ _; exact s_none
  | succ n ih =>
    intro x1 x2 s1
    rw [fX7_totalNow_L4]
    refine s_iload_n 2 dX7_totalNow_4 rfl rfl ?_
    refine s_bipush dX7_totalNow_5 (by decide) ?_
    refine s_icmp_ge (tgt := 48) dX7_totalNow_7 (by decide) ?_ ?_
    · exact s_sub [1] rfl (hk48 x1 s1)
    · refine s_lload_n 1 dX7_totalNow_10 rfl rfl ?_
      refine s_aload_n 0 dX7_totalNow_11 rfl rfl ?_
      refine s_getr (n := 17) (k' := 346) dX7_totalNow_12 ly7 fl_X7_68 kd_328 rfl rfl rfl ?_
      refine s_iload_n 2 dX7_totalNow_15 rfl rfl ?_
      refine s_lald 10 dX7_totalNow_16 kd_346 (by decide) (fun x4 => ?_)
      refine s_lconst (x := 0) dX7_totalNow_17 (by decide) ?_
      refine s_jn (fun (j1 : Int → Mem → PR) => ∀ (x5 : Int) (s3 : Mem), SX7_totalNow B X (j1 x5 s3) s3 40 [(0, rv B 328), (3, iv x2)] [jv x5, jv x1]) ?_ (fun j1 hj1 => ?_)
      · intro x5 s2
        refine s_ladd dX7_totalNow_40 ?_
        refine s_ltl (fun x6 => ?_)
        refine s_lstore_n (lv' := [(1, jv x6), (0, rv B 328), (3, iv x2)]) dX7_totalNow_41 rfl (by decide) rfl ?_
        refine s_iinc (lv' := [(3, iv (x2 + 1)), (1, jv x6), (0, rv B 328)]) 2 dX7_totalNow_42 rfl (by decide) rfl ?_
        refine s_goto (tgt := 4) dX7_totalNow_45 (by decide) ?_
        exact s_sub [2, 1, 0] rfl (ih x6 (x2 + 1) s2)
      · refine s_lif_lt (tgt := 39) dX7_totalNow_18 dX7_totalNow_19 (by decide) ?_ ?_
        · refine s_lconst (x := 0) dX7_totalNow_39 (by decide) ?_
          exact s_sub [0, 2] rfl (hj1 0 s1)
        · refine s_aload_n 0 dX7_totalNow_22 rfl rfl ?_
          refine s_getr (n := 9) (k' := 338) dX7_totalNow_23 ly7 fl_X7_43 kd_328 rfl rfl rfl ?_
          refine s_iload_n 2 dX7_totalNow_26 rfl rfl ?_
          refine s_iald 10 dX7_totalNow_27 kd_338 (by decide) (fun x7 => ?_)
          refine s_i2l dX7_totalNow_28 ?_
          refine s_aload_n 0 dX7_totalNow_29 rfl rfl ?_
          refine s_getr (n := 17) (k' := 346) dX7_totalNow_30 ly7 fl_X7_68 kd_328 rfl rfl rfl ?_
          refine s_iload_n 2 dX7_totalNow_33 rfl rfl ?_
          refine s_lald 10 dX7_totalNow_34 kd_346 (by decide) (fun x8 => ?_)
          refine s_lmul dX7_totalNow_35 ?_
          refine s_goto (tgt := 40) dX7_totalNow_36 (by decide) ?_
          exact s_sub [0, 2] rfl (hj1 ((w32 x7) * x8) s1)
set_option maxHeartbeats 4000000 in
set_option maxRecDepth 100000 in
theorem ctX7_totalNow (B fu : Nat) (σ : Mem) : CtL yX7_totalNow cX7_totalNow 4 (some .long) rmX7_totalNow B [rv B 328] σ (fX7_totalNow fu σ) := by
  refine ctL_intro (own := RX7) (lv := [(0, rv B 328)]) (by decide +kernel) rfl (Nat.le_of_ble_eq_true rfl) rfl (fun X hX => ?_)
  unfold fX7_totalNow
  refine s_lconst (x := 0) dX7_totalNow_0 (by decide) ?_
  refine s_lstore_n (lv' := [(1, jv 0), (0, rv B 328)]) dX7_totalNow_1 rfl (by decide) rfl ?_
  refine s_iconst dX7_totalNow_2 ?_
  refine s_istore_n (lv' := [(3, iv 0), (1, jv 0), (0, rv B 328)]) dX7_totalNow_3 rfl (by decide) rfl ?_
  refine s_sub [2, 1, 0] (lv' := [(0, rv B 328), (1, jv 0), (3, iv 0)]) rfl ?_
  refine fX7_totalNow_L4_s hX _ ?_ fu 0 0 σ
  intro x9 s6
  refine s_lload_n 0 dX7_totalNow_48 rfl rfl ?_
  exact s_lret hX dX7_totalNow_49
abbrev rmX7_strandedNow : Room := { frames := 0, cells := 0, slots := 0, locals := 0 }
abbrev SX7_strandedNow (B : Nat) (X : Ctx) := Sim cX7_strandedNow RX7 4 rmX7_strandedNow B X
set_option maxHeartbeats 4000000 in
set_option maxRecDepth 100000 in
theorem fX7_strandedNow_L4_s {B fu : Nat} {X : Ctx} (hX : CxL B X) (k49 : Int → Mem → PR) (hk49 : ∀ (x3 : Int) (s7 : Mem), SX7_strandedNow B X (k49 x3 s7) s7 49 [(1, jv x3)] []) : ∀ (n : Nat) (x1 : Int) (x2 : Int) (s6 : Mem), SX7_strandedNow B X (fX7_strandedNow_L4 fu k49 n x1 x2 s6) s6 4 [(0, rv B 328), (1, jv x1), (3, iv x2)] [] := by
  intro n
  induction n with
  | zero => intro _ _ _; exact s_none
  | succ n ih =>
    intro x1 x2 s1
    rw [fX7_strandedNow_L4]
    refine s_iload_n 2 dX7_strandedNow_4 rfl rfl ?_
    refine s_bipush dX7_strandedNow_5 (by decide) ?_
    refine s_icmp_ge (tgt := 49) dX7_strandedNow_7 (by decide) ?_ ?_
    · exact s_sub [1] rfl (hk49 x1 s1)
    · refine s_lload_n 1 dX7_strandedNow_10 rfl rfl ?_
      refine s_iload_n 2 dX7_strandedNow_11 rfl rfl ?_
      refine s_aload_n 0 dX7_strandedNow_12 rfl rfl ?_
      refine s_geti dX7_strandedNow_13 ly7 fl_X7_197 kd_328 rfl ?_
      refine s_jn (fun (j1 : Int → Mem → PR) => ∀ (x4 : Int) (s5 : Mem), SX7_strandedNow B X (j1 x4 s5) s5 41 [(0, rv B 328), (3, iv x2)] [jv x4, jv x1]) ?_ (fun j1 hj1 => ?_)
      · intro x4 s2
        refine s_ladd dX7_strandedNow_41 ?_
        refine s_ltl (fun x5 => ?_)
        refine s_lstore_n (lv' := [(1, jv x5), (0, rv B 328), (3, iv x2)]) dX7_strandedNow_42 rfl (by decide) rfl ?_
        refine s_iinc (lv' := [(3, iv (x2 + 1)), (1, jv x5), (0, rv B 328)]) 2 dX7_strandedNow_43 rfl (by decide) rfl ?_
        refine s_goto (tgt := 4) dX7_strandedNow_46 (by decide) ?_
        exact s_sub [2, 1, 0] rfl (ih x5 (x2 + 1) s2)
      · refine s_jn (fun (j2 : Mem → PR) => ∀ (s4 : Mem), SX7_strandedNow B X (j2 s4) s4 40 [(0, rv B 328), (3, iv x2)] [jv x1]) ?_ (fun j2 hj2 => ?_)
        · intro s3
          refine s_lconst (x := 0) dX7_strandedNow_40 (by decide) ?_
          exact hj1 0 s3
        · refine s_icmp_eq (tgt := 40) dX7_strandedNow_16 (by decide) ?_ ?_
          · exact s_sub [0, 2] rfl (hj2 s1)
          · refine s_aload_n 0 dX7_strandedNow_19 rfl rfl ?_
            refine s_getr (n := 17) (k' := 346) dX7_strandedNow_20 ly7 fl_X7_68 kd_328 rfl rfl rfl ?_
            refine s_iload_n 2 dX7_strandedNow_23 rfl rfl ?_
            refine s_lald 10 dX7_strandedNow_24 kd_346 (by decide) (fun x6 => ?_)
            refine s_lconst (x := 0) dX7_strandedNow_25 (by decide) ?_
            refine s_lif_ge (tgt := 40) dX7_strandedNow_26 dX7_strandedNow_27 (by decide) ?_ ?_
            · exact s_sub [0, 2] rfl (hj2 s1)
            · refine s_aload_n 0 dX7_strandedNow_30 rfl rfl ?_
              refine s_getr (n := 9) (k' := 338) dX7_strandedNow_31 ly7 fl_X7_43 kd_328 rfl rfl rfl ?_
              refine s_iload_n 2 dX7_strandedNow_34 rfl rfl ?_
              refine s_iald 10 dX7_strandedNow_35 kd_338 (by decide) (fun x7 => ?_)
              refine s_i2l dX7_strandedNow_36 ?_
              refine s_goto (tgt := 41) dX7_strandedNow_37 (by decide) ?_
              exact s_sub [0, 2] rfl (hj1 (w32 x7) s1)
set_option maxHeartbeats 4000000 in
set_option maxRecDepth 100000 in
theorem ctX7_strandedNow (B fu : Nat) (σ : Mem) : CtL yX7_strandedNow cX7_strandedNow 4 (some .long) rmX7_strandedNow B [rv B 328] σ (fX7_strandedNow fu σ) := by
  refine ctL_intro (own := RX7) (lv := [(0, rv B 328)]) (by decide +kernel) rfl (Nat.le_of_ble_eq_true rfl) rfl (fun X hX => ?_)
  unfold fX7_strandedNow
  refine s_lconst (x := 0) dX7_strandedNow_0 (by decide) ?_
  refine s_lstore_n (lv' := [(1, jv 0), (0, rv B 328)]) dX7_strandedNow_1 rfl (by decide) rfl ?_
  refine s_iconst dX7_strandedNow_2 ?_
  refine s_istore_n (lv' := [(3, iv 0), (1, jv 0), (0, rv B 328)]) dX7_strandedNow_3 rfl (by decide) rfl ?_
  refine s_sub [2, 1, 0] (lv' := [(0, rv B 328), (1, jv 0), (3, iv 0)]) rfl ?_
  refine fX7_strandedNow_L4_s hX _ ?_ fu 0 0 σ
  intro x8 s8
  refine s_lload_n 0 dX7_strandedNow_49 rfl rfl ?_
  exact s_lret hX dX7_strandedNow_50
abbrev rmX7_load : Room := { frames := 9, cells := 0, slots := 0, locals := 204 }
abbrev SX7_load (B : Nat) (X : Ctx) := Sim cX7_load RX7 3 rmX7_load B X
set_option maxHeartbeats 4000000 in
set_option maxRecDepth 100000 in
theorem ctX7_load (B fu : Nat) (a0 : Int) (a1 : Int) (σ : Mem) : CtI yX7_load cX7_load 3 (some .int) rmX7_load B [rv B 328, iv a0, iv a1] σ (fX7_load fu a0 a1 σ) := by
  refine ctI_intro (own := RX7) (lv := [(0, rv B 328), (1, iv a0), (2, iv a1)]) (by decide +kernel) rfl (Nat.le_of_ble_eq_true rfl) rfl (fun X hX => ?_)
  unfold fX7_load
  refine s_aload_n 0 dX7_load_0 rfl rfl ?_
  refine s_iconst dX7_load_1 ?_
  refine s_puti dX7_load_2 ly7 ty7 fl_X7_116 kd_328 rfl po7_20 ⟨rfl, rfl, by decide⟩ (fun s1 => ?_)
  refine s_aload_n 0 dX7_load_5 rfl rfl ?_
  refine s_iload_n 1 dX7_load_6 rfl rfl ?_
  refine s_iload_n 2 dX7_load_7 rfl rfl ?_
  refine s_Vi (rest := []) dX7_load_8 lk_X7_252 meX7_isStep (ctX7_isStep B fu a0 a1 s1) kd_328 ⟨rfl, by decide⟩ rfl rfl ⟨rfl, rfl, by decide, by decide⟩ (Nat.le_of_ble_eq_true rfl) (fun x1 s2 => ?_)
  refine s_if_ne (tgt := 16) dX7_load_11 (by decide) ?_ ?_
  · refine s_aload_n 0 dX7_load_16 rfl rfl ?_
    refine s_Vv (rest := []) dX7_load_17 lk_X7_272 meX7_laysLoads (ctX7_laysLoads B fu s2) kd_328 ⟨rfl, by decide⟩ rfl rfl ⟨rfl, rfl, by decide, by decide⟩ (Nat.le_of_ble_eq_true rfl) (fun _ s3 => ?_)
    refine s_aload_n 0 dX7_load_20 rfl rfl ?_
    refine s_getr (n := 27) (k' := 356) dX7_load_21 ly7 fl_X7_101 kd_328 rfl rfl rfl ?_
    refine s_iload_n 1 dX7_load_24 rfl rfl ?_
    refine s_iload_n 2 dX7_load_25 rfl rfl ?_
    refine s_Si (rest := [rv B 356]) dX7_load_26 lk_X7_165 meX7_at (ctX7_at B fu a0 a1 s3) rfl rfl ⟨rfl, rfl, by decide, by decide⟩ (Nat.le_of_ble_eq_true rfl) (fun x2 s4 => ?_)
    refine s_lald 96 dX7_load_29 kd_356 (by decide) (fun x3 => ?_)
    refine s_l2i dX7_load_30 ?_
    exact s_iret hX dX7_load_31
  · refine s_iconst dX7_load_14 ?_
    exact s_iret hX dX7_load_15
abbrev rmX7_passes : Room := { frames := 9, cells := 0, slots := 0, locals := 204 }
abbrev SX7_passes (B : Nat) (X : Ctx) := Sim cX7_passes RX7 2 rmX7_passes B X
set_option maxHeartbeats 4000000 in
set_option maxRecDepth 100000 in
theorem ctX7_passes (B fu : Nat) (a0 : Int) (σ : Mem) : CtI yX7_passes cX7_passes 2 (some .int) rmX7_passes B [rv B 328, iv a0] σ (fX7_passes fu a0 σ) := by
  refine ctI_intro (own := RX7) (lv := [(0, rv B 328), (1, iv a0)]) (by decide +kernel) rfl (Nat.le_of_ble_eq_true rfl) rfl (fun X hX => ?_)
  unfold fX7_passes
  refine s_aload_n 0 dX7_passes_0 rfl rfl ?_
  refine s_iconst dX7_passes_1 ?_
  refine s_puti dX7_passes_2 ly7 ty7 fl_X7_116 kd_328 rfl po7_20 ⟨rfl, rfl, by decide⟩ (fun s1 => ?_)
  refine s_iload_n 1 dX7_passes_5 rfl rfl ?_
  refine s_Si (rest := []) dX7_passes_6 lk_X7_162 meX7_isStop (ctX7_isStop B fu a0 s1) rfl rfl ⟨rfl, rfl, by decide, by decide⟩ (Nat.le_of_ble_eq_true rfl) (fun x1 s2 => ?_)
  refine s_if_ne (tgt := 14) dX7_passes_9 (by decide) ?_ ?_
  · refine s_aload_n 0 dX7_passes_14 rfl rfl ?_
    refine s_Vv (rest := []) dX7_passes_15 lk_X7_272 meX7_laysLoads (ctX7_laysLoads B fu s2) kd_328 ⟨rfl, by decide⟩ rfl rfl ⟨rfl, rfl, by decide, by decide⟩ (Nat.le_of_ble_eq_true rfl) (fun _ s3 => ?_)
    refine s_aload_n 0 dX7_passes_18 rfl rfl ?_
    refine s_iconst dX7_passes_19 ?_
    refine s_puti dX7_passes_20 ly7 ty7 fl_X7_119 kd_328 rfl po7_19 ⟨rfl, rfl, by decide⟩ (fun s4 => ?_)
    refine s_aload_n 0 dX7_passes_23 rfl rfl ?_
    refine s_aload_n 0 dX7_passes_24 rfl rfl ?_
    refine s_getr (n := 30) (k' := 359) dX7_passes_25 ly7 fl_X7_110 kd_328 rfl rfl rfl ?_
    refine s_iload_n 1 dX7_passes_28 rfl rfl ?_
    refine s_lald 10 dX7_passes_29 kd_359 (by decide) (fun x2 => ?_)
    refine s_Vv (rest := []) dX7_passes_30 lk_X7_211 meX7_tell (ctX7_tell B fu x2 s4) kd_328 ⟨rfl, by decide⟩ rfl rfl ⟨rfl, rfl, by decide, by decide⟩ (Nat.le_of_ble_eq_true rfl) (fun _ s5 => ?_)
    refine s_aload_n 0 dX7_passes_33 rfl rfl ?_
    refine s_getr (n := 9) (k' := 338) dX7_passes_34 ly7 fl_X7_43 kd_328 rfl rfl rfl ?_
    refine s_iload_n 1 dX7_passes_37 rfl rfl ?_
    refine s_iald 10 dX7_passes_38 kd_338 (by decide) (fun x3 => ?_)
    refine s_i2l dX7_passes_39 ?_
    refine s_aload_n 0 dX7_passes_40 rfl rfl ?_
    refine s_getr (n := 30) (k' := 359) dX7_passes_41 ly7 fl_X7_110 kd_328 rfl rfl rfl ?_
    refine s_iload_n 1 dX7_passes_44 rfl rfl ?_
    refine s_lald 10 dX7_passes_45 kd_359 (by decide) (fun x4 => ?_)
    refine s_ladd dX7_passes_46 ?_
    refine s_l2i dX7_passes_47 ?_
    exact s_iret hX dX7_passes_48
  · refine s_iconst dX7_passes_12 ?_
    exact s_iret hX dX7_passes_13
abbrev rmX7_ridden : Room := { frames := 9, cells := 0, slots := 0, locals := 204 }
abbrev SX7_ridden (B : Nat) (X : Ctx) := Sim cX7_ridden RX7 6 rmX7_ridden B X
set_option maxHeartbeats 4000000 in
set_option maxRecDepth 100000 in
theorem fX7_ridden_L27_s {B fu : Nat} {X : Ctx} (hX : CxI .int B X) (c1 : Int) (k95 : Int → Int → Mem → PR) (hk95 : ∀ (x5 : Int) (x6 : Int) (s11 : Mem), SX7_ridden B X (k95 x5 x6 s11) s11 95 [(0, rv B 328), (1, iv c1), (2, jv x5), (4, iv x6)] []) : ∀ (n : Nat) (x2 : Int) (x3 : Int) (x4 : Int) (s10 : Mem), SX7_ridden B X (fX7_ridden_L27 fu c1 k95 n x2 x3 x4 s10) s10 27 [(0, rv B 328), (1, iv c1), (2, jv x2), (4, iv x3), (5, iv x4)] [] := by
  intro n
  induction n with
  | zero => intro _ _ _ _; exact s_none
  | succ n ih =>
    intro x2 x3 x4 s4
    rw [fX7_ridden_L27]
    refine s_iload 4 dX7_ridden_27 rfl ?_
    refine s_aload_n 0 dX7_ridden_29 rfl rfl ?_
    refine s_getr (n := 1) (k' := 330) dX7_ridden_30 ly7 fl_X7_13 kd_328 rfl rfl rfl ?_
    refine s_iload_n 1 dX7_ridden_33 rfl rfl ?_
    refine s_iald 12 dX7_ridden_34 kd_330 (by decide) (fun x7 => ?_)
    refine s_iconst dX7_ridden_35 ?_
    refine s_isub dX7_ridden_36 ?_
    refine s_icmp_ge (tgt := 95) dX7_ridden_37 (by decide) ?_ ?_
    · exact s_sub [0, 1, 2, 3] rfl (hk95 x2 x3 s4)
    · refine s_lload_n 2 dX7_ridden_40 rfl rfl ?_
      refine s_aload_n 0 dX7_ridden_41 rfl rfl ?_
      refine s_getr (n := 28) (k' := 357) dX7_ridden_42 ly7 fl_X7_104 kd_328 rfl rfl rfl ?_
      refine s_iload_n 1 dX7_ridden_45 rfl rfl ?_
      refine s_iload 4 dX7_ridden_46 rfl ?_
      refine s_Si (rest := [rv B 357, jv x2]) dX7_ridden_48 lk_X7_165 meX7_at (ctX7_at B fu c1 x4 s4) rfl rfl ⟨rfl, rfl, by decide, by decide⟩ (Nat.le_of_ble_eq_true rfl) (fun x8 s5 => ?_)
      refine s_lald 96 dX7_ridden_51 kd_357 (by decide) (fun x9 => ?_)
      refine s_ladd dX7_ridden_52 ?_
      refine s_ltl (fun x10 => ?_)
      refine s_lstore_n (lv' := [(2, jv x10), (0, rv B 328), (1, iv c1), (4, iv x3), (5, iv x4)]) dX7_ridden_53 rfl (by decide) rfl ?_
      refine s_aload_n 1 dX7_ridden_54 rfl rfl ?_
      refine s_getr (n := 27) (k' := 356) dX7_ridden_55 ly7 fl_X7_101 kd_328 rfl rfl rfl ?_
      refine s_iload_n 2 dX7_ridden_58 rfl rfl ?_
      refine s_iload 4 dX7_ridden_59 rfl ?_
      refine s_Si (rest := [rv B 356]) dX7_ridden_61 lk_X7_165 meX7_at (ctX7_at B fu c1 x4 s5) rfl rfl ⟨rfl, rfl, by decide, by decide⟩ (Nat.le_of_ble_eq_true rfl) (fun x11 s6 => ?_)
      refine s_lald 96 dX7_ridden_64 kd_356 (by decide) (fun x12 => ?_)
      refine s_aload_n 1 dX7_ridden_65 rfl rfl ?_
      refine s_getr (n := 27) (k' := 356) dX7_ridden_66 ly7 fl_X7_101 kd_328 rfl rfl rfl ?_
      refine s_iload_n 2 dX7_ridden_69 rfl rfl ?_
      refine s_iload 3 dX7_ridden_70 rfl ?_
      refine s_Si (rest := [rv B 356, jv x12]) dX7_ridden_72 lk_X7_165 meX7_at (ctX7_at B fu c1 x3 s6) rfl rfl ⟨rfl, rfl, by decide, by decide⟩ (Nat.le_of_ble_eq_true rfl) (fun x13 s7 => ?_)
      refine s_lald 96 dX7_ridden_75 kd_356 (by decide) (fun x14 => ?_)
      refine s_jn (fun (j1 : Int → Mem → PR) => ∀ (x15 : Int) (s9 : Mem), SX7_ridden B X (j1 x15 s9) s9 87 [(0, rv B 328), (1, iv c1), (2, jv x10), (5, iv x4)] [iv x15]) ?_ (fun j1 hj1 => ?_)
      · intro x15 s8
        refine s_istore (lv' := [(4, iv x15), (0, rv B 328), (1, iv c1), (2, jv x10), (5, iv x4)]) dX7_ridden_87 (by decide) rfl ?_
        refine s_iinc (lv' := [(5, iv (x4 + 1)), (4, iv x15), (0, rv B 328), (1, iv c1), (2, jv x10)]) 4 dX7_ridden_89 rfl (by decide) rfl ?_
        refine s_goto (tgt := 27) dX7_ridden_92 (by decide) ?_
        exact s_sub [2, 3, 4, 1, 0] rfl (ih x10 x15 (x4 + 1) s8)
      · refine s_lif_le (tgt := 85) dX7_ridden_76 dX7_ridden_77 (by decide) ?_ ?_
        · refine s_iload 3 dX7_ridden_85 rfl ?_
          exact s_sub [1, 2, 0, 4] rfl (hj1 x3 s7)
        · refine s_iload 4 dX7_ridden_80 rfl ?_
          refine s_goto (tgt := 87) dX7_ridden_82 (by decide) ?_
          exact s_sub [1, 2, 0, 4] rfl (hj1 x4 s7)
set_option maxHeartbeats 4000000 in
set_option maxRecDepth 100000 in
theorem ctX7_ridden (B fu : Nat) (a0 : Int) (σ : Mem) : CtI yX7_ridden cX7_ridden 6 (some .int) rmX7_ridden B [rv B 328, iv a0] σ (fX7_ridden fu a0 σ) := by
  refine ctI_intro (own := RX7) (lv := [(0, rv B 328), (1, iv a0)]) (by decide +kernel) rfl (Nat.le_of_ble_eq_true rfl) rfl (fun X hX => ?_)
  unfold fX7_ridden
  refine s_aload_n 0 dX7_ridden_0 rfl rfl ?_
  refine s_iconst dX7_ridden_1 ?_
  refine s_puti dX7_ridden_2 ly7 ty7 fl_X7_116 kd_328 rfl po7_20 ⟨rfl, rfl, by decide⟩ (fun s1 => ?_)
  refine s_aload_n 0 dX7_ridden_5 rfl rfl ?_
  refine s_iload_n 1 dX7_ridden_6 rfl rfl ?_
  refine s_Vi (rest := []) dX7_ridden_7 lk_X7_134 meX7_isLine (ctX7_isLine B fu a0 s1) kd_328 ⟨rfl, by decide⟩ rfl rfl ⟨rfl, rfl, by decide, by decide⟩ (Nat.le_of_ble_eq_true rfl) (fun x1 s2 => ?_)
  refine s_if_ne (tgt := 15) dX7_ridden_10 (by decide) ?_ ?_
  · refine s_aload_n 0 dX7_ridden_15 rfl rfl ?_
    refine s_Vv (rest := []) dX7_ridden_16 lk_X7_272 meX7_laysLoads (ctX7_laysLoads B fu s2) kd_328 ⟨rfl, by decide⟩ rfl rfl ⟨rfl, rfl, by decide, by decide⟩ (Nat.le_of_ble_eq_true rfl) (fun _ s3 => ?_)
    refine s_lconst (x := 0) dX7_ridden_19 (by decide) ?_
    refine s_lstore_n (lv' := [(2, jv 0), (0, rv B 328), (1, iv a0)]) dX7_ridden_20 rfl (by decide) rfl ?_
    refine s_iconst dX7_ridden_21 ?_
    refine s_istore (lv' := [(4, iv 0), (2, jv 0), (0, rv B 328), (1, iv a0)]) dX7_ridden_22 (by decide) rfl ?_
    refine s_iconst dX7_ridden_24 ?_
    refine s_istore (lv' := [(5, iv 0), (4, iv 0), (2, jv 0), (0, rv B 328), (1, iv a0)]) dX7_ridden_25 (by decide) rfl ?_
    refine s_sub [3, 4, 2, 1, 0] (lv' := [(0, rv B 328), (1, iv a0), (2, jv 0), (4, iv 0), (5, iv 0)]) rfl ?_
    refine fX7_ridden_L27_s hX a0 _ ?_ fu 0 0 0 s3
    intro x16 x17 s12
    refine s_aload_n 0 dX7_ridden_95 rfl rfl ?_
    refine s_iconst dX7_ridden_96 ?_
    refine s_puti dX7_ridden_97 ly7 ty7 fl_X7_119 kd_328 rfl po7_19 ⟨rfl, rfl, by decide⟩ (fun s13 => ?_)
    refine s_aload_n 0 dX7_ridden_100 rfl rfl ?_
    refine s_aload_n 0 dX7_ridden_101 rfl rfl ?_
    refine s_getr (n := 27) (k' := 356) dX7_ridden_102 ly7 fl_X7_101 kd_328 rfl rfl rfl ?_
    refine s_iload_n 1 dX7_ridden_105 rfl rfl ?_
    refine s_iload 3 dX7_ridden_106 rfl ?_
    refine s_Si (rest := [rv B 356, rv B 328]) dX7_ridden_108 lk_X7_165 meX7_at (ctX7_at B fu a0 x17 s13) rfl rfl ⟨rfl, rfl, by decide, by decide⟩ (Nat.le_of_ble_eq_true rfl) (fun x18 s14 => ?_)
    refine s_lald 96 dX7_ridden_111 kd_356 (by decide) (fun x19 => ?_)
    refine s_Vv (rest := []) dX7_ridden_112 lk_X7_211 meX7_tell (ctX7_tell B fu x19 s14) kd_328 ⟨rfl, by decide⟩ rfl rfl ⟨rfl, rfl, by decide, by decide⟩ (Nat.le_of_ble_eq_true rfl) (fun _ s15 => ?_)
    refine s_aload_n 0 dX7_ridden_115 rfl rfl ?_
    refine s_iload 3 dX7_ridden_116 rfl ?_
    refine s_i2l dX7_ridden_118 ?_
    refine s_Vv (rest := []) dX7_ridden_119 lk_X7_211 meX7_tell (ctX7_tell B fu (w32 x17) s15) kd_328 ⟨rfl, by decide⟩ rfl rfl ⟨rfl, rfl, by decide, by decide⟩ (Nat.le_of_ble_eq_true rfl) (fun _ s16 => ?_)
    refine s_lload_n 2 dX7_ridden_122 rfl rfl ?_
    refine s_l2i dX7_ridden_123 ?_
    exact s_iret hX dX7_ridden_124
  · refine s_iconst dX7_ridden_13 ?_
    exact s_iret hX dX7_ridden_14
abbrev rmX7_boardings : Room := { frames := 9, cells := 0, slots := 0, locals := 204 }
abbrev SX7_boardings (B : Nat) (X : Ctx) := Sim cX7_boardings RX7 3 rmX7_boardings B X
set_option maxHeartbeats 4000000 in
set_option maxRecDepth 100000 in
theorem ctX7_boardings (B fu : Nat) (a0 : Int) (a1 : Int) (σ : Mem) : CtI yX7_boardings cX7_boardings 3 (some .int) rmX7_boardings B [rv B 328, iv a0, iv a1] σ (fX7_boardings fu a0 a1 σ) := by
  refine ctI_intro (own := RX7) (lv := [(0, rv B 328), (1, iv a0), (2, iv a1)]) (by decide +kernel) rfl (Nat.le_of_ble_eq_true rfl) rfl (fun X hX => ?_)
  unfold fX7_boardings
  refine s_aload_n 0 dX7_boardings_0 rfl rfl ?_
  refine s_iconst dX7_boardings_1 ?_
  refine s_puti dX7_boardings_2 ly7 ty7 fl_X7_116 kd_328 rfl po7_20 ⟨rfl, rfl, by decide⟩ (fun s1 => ?_)
  refine s_aload_n 0 dX7_boardings_5 rfl rfl ?_
  refine s_iload_n 1 dX7_boardings_6 rfl rfl ?_
  refine s_iload_n 2 dX7_boardings_7 rfl rfl ?_
  refine s_Vi (rest := []) dX7_boardings_8 lk_X7_207 meX7_isHalt (ctX7_isHalt B fu a0 a1 s1) kd_328 ⟨rfl, by decide⟩ rfl rfl ⟨rfl, rfl, by decide, by decide⟩ (Nat.le_of_ble_eq_true rfl) (fun x1 s2 => ?_)
  refine s_if_ne (tgt := 16) dX7_boardings_11 (by decide) ?_ ?_
  · refine s_aload_n 0 dX7_boardings_16 rfl rfl ?_
    refine s_Vv (rest := []) dX7_boardings_17 lk_X7_272 meX7_laysLoads (ctX7_laysLoads B fu s2) kd_328 ⟨rfl, by decide⟩ rfl rfl ⟨rfl, rfl, by decide, by decide⟩ (Nat.le_of_ble_eq_true rfl) (fun _ s3 => ?_)
    refine s_aload_n 0 dX7_boardings_20 rfl rfl ?_
    refine s_iconst dX7_boardings_21 ?_
    refine s_puti dX7_boardings_22 ly7 ty7 fl_X7_119 kd_328 rfl po7_19 ⟨rfl, rfl, by decide⟩ (fun s4 => ?_)
    refine s_aload_n 0 dX7_boardings_25 rfl rfl ?_
    refine s_aload_n 0 dX7_boardings_26 rfl rfl ?_
    refine s_getr (n := 29) (k' := 358) dX7_boardings_27 ly7 fl_X7_107 kd_328 rfl rfl rfl ?_
    refine s_iload_n 1 dX7_boardings_30 rfl rfl ?_
    refine s_iload_n 2 dX7_boardings_31 rfl rfl ?_
    refine s_Si (rest := [rv B 358, rv B 328]) dX7_boardings_32 lk_X7_165 meX7_at (ctX7_at B fu a0 a1 s4) rfl rfl ⟨rfl, rfl, by decide, by decide⟩ (Nat.le_of_ble_eq_true rfl) (fun x2 s5 => ?_)
    refine s_lald 96 dX7_boardings_35 kd_358 (by decide) (fun x3 => ?_)
    refine s_Vv (rest := []) dX7_boardings_36 lk_X7_211 meX7_tell (ctX7_tell B fu x3 s5) kd_328 ⟨rfl, by decide⟩ rfl rfl ⟨rfl, rfl, by decide, by decide⟩ (Nat.le_of_ble_eq_true rfl) (fun _ s6 => ?_)
    refine s_aload_n 0 dX7_boardings_39 rfl rfl ?_
    refine s_getr (n := 28) (k' := 357) dX7_boardings_40 ly7 fl_X7_104 kd_328 rfl rfl rfl ?_
    refine s_iload_n 1 dX7_boardings_43 rfl rfl ?_
    refine s_iload_n 2 dX7_boardings_44 rfl rfl ?_
    refine s_Si (rest := [rv B 357]) dX7_boardings_45 lk_X7_165 meX7_at (ctX7_at B fu a0 a1 s6) rfl rfl ⟨rfl, rfl, by decide, by decide⟩ (Nat.le_of_ble_eq_true rfl) (fun x4 s7 => ?_)
    refine s_lald 96 dX7_boardings_48 kd_357 (by decide) (fun x5 => ?_)
    refine s_l2i dX7_boardings_49 ?_
    exact s_iret hX dX7_boardings_50
  · refine s_iconst dX7_boardings_14 ?_
    exact s_iret hX dX7_boardings_15
abbrev rmX7_total : Room := { frames := 9, cells := 0, slots := 0, locals := 204 }
abbrev SX7_total (B : Nat) (X : Ctx) := Sim cX7_total RX7 5 rmX7_total B X
set_option maxHeartbeats 4000000 in
set_option maxRecDepth 100000 in
theorem fX7_total_L24_s {B fu : Nat} {X : Ctx} (hX : CxL B X) (c1 : Int) (k65 : Int → Mem → PR) (hk65 : ∀ (x6 : Int) (s8 : Mem), SX7_total B X (k65 x6 s8) s8 65 [(0, rv B 328), (1, jv x6), (3, iv c1)] []) : ∀ (n : Nat) (x4 : Int) (x5 : Int) (s7 : Mem), SX7_total B X (fX7_total_L24 fu c1 k65 n x4 x5 s7) s7 24 [(0, rv B 328), (1, jv x4), (3, iv c1), (4, iv x5)] [] := by
  intro n
  induction n with
  | zero => intro _ _ _; exact s_none
  | succ n ih =>
    intro x4 x5 s4
    rw [fX7_total_L24]
    refine s_iload 3 dX7_total_24 rfl ?_
    refine s_aload_n 0 dX7_total_26 rfl rfl ?_
    refine s_getr (n := 1) (k' := 330) dX7_total_27 ly7 fl_X7_13 kd_328 rfl rfl rfl ?_
    refine s_iload_n 2 dX7_total_30 rfl rfl ?_
    refine s_iald 12 dX7_total_31 kd_330 (by decide) (fun x7 => ?_)
    refine s_iconst dX7_total_32 ?_
    refine s_isub dX7_total_33 ?_
    refine s_icmp_ge (tgt := 65) dX7_total_34 (by decide) ?_ ?_
    · exact s_sub [0, 1, 2] rfl (hk65 x4 s4)
    · refine s_lload_n 1 dX7_total_37 rfl rfl ?_
      refine s_aload_n 0 dX7_total_38 rfl rfl ?_
      refine s_getr (n := 27) (k' := 356) dX7_total_39 ly7 fl_X7_101 kd_328 rfl rfl rfl ?_
      refine s_iload_n 2 dX7_total_42 rfl rfl ?_
      refine s_iload 3 dX7_total_43 rfl ?_
      refine s_Si (rest := [rv B 356, jv x4]) dX7_total_45 lk_X7_165 meX7_at (ctX7_at B fu c1 x5 s4) rfl rfl ⟨rfl, rfl, by decide, by decide⟩ (Nat.le_of_ble_eq_true rfl) (fun x8 s5 => ?_)
      refine s_lald 96 dX7_total_48 kd_356 (by decide) (fun x9 => ?_)
      refine s_aload_n 0 dX7_total_49 rfl rfl ?_
      refine s_iload_n 2 dX7_total_50 rfl rfl ?_
      refine s_iload 3 dX7_total_51 rfl ?_
      refine s_Vl (rest := [jv x9, jv x4]) dX7_total_53 lk_X7_217 meX7_time (ctX7_time B fu c1 x5 s5) kd_328 ⟨rfl, by decide⟩ rfl rfl ⟨rfl, rfl, by decide, by decide⟩ (Nat.le_of_ble_eq_true rfl) (fun x10 s6 => ?_)
      refine s_lmul dX7_total_56 ?_
      refine s_ladd dX7_total_57 ?_
      refine s_ltl (fun x11 => ?_)
      refine s_lstore_n (lv' := [(1, jv x11), (0, rv B 328), (3, iv c1), (4, iv x5)]) dX7_total_58 rfl (by decide) rfl ?_
      refine s_iinc (lv' := [(4, iv (x5 + 1)), (1, jv x11), (0, rv B 328), (3, iv c1)]) 3 dX7_total_59 rfl (by decide) rfl ?_
      refine s_goto (tgt := 24) dX7_total_62 (by decide) ?_
      exact s_sub [2, 1, 3, 0] rfl (ih x11 (x5 + 1) s6)
set_option maxHeartbeats 4000000 in
set_option maxRecDepth 100000 in
theorem fX7_total_L13_s {B fu : Nat} {X : Ctx} (hX : CxL B X) (k71 : Int → Mem → PR) (hk71 : ∀ (x3 : Int) (s11 : Mem), SX7_total B X (k71 x3 s11) s11 71 [(0, rv B 328), (1, jv x3)] []) : ∀ (n : Nat) (x1 : Int) (x2 : Int) (s10 : Mem), SX7_total B X (fX7_total_L13 fu k71 n x1 x2 s10) s10 13 [(0, rv B 328), (1, jv x1), (3, iv x2)] [] := by
  intro n
  induction n with
  | zero => intro _ _ _; exact s_none
  | succ n ih =>
    intro x1 x2 s3
    rw [fX7_total_L13]
    refine s_iload_n 2 dX7_total_13 rfl rfl ?_
    refine s_aload_n 0 dX7_total_14 rfl rfl ?_
    refine s_geti dX7_total_15 ly7 fl_X7_129 kd_328 rfl ?_
    refine s_icmp_ge (tgt := 71) dX7_total_18 (by decide) ?_ ?_
    · exact s_sub [0, 1] rfl (hk71 x1 s3)
    · refine s_iconst dX7_total_21 ?_
      refine s_istore (lv' := [(4, iv 0), (0, rv B 328), (1, jv x1), (3, iv x2)]) dX7_total_22 (by decide) rfl ?_
      refine s_sub [1, 2, 3, 0] (lv' := [(0, rv B 328), (1, jv x1), (3, iv x2), (4, iv 0)]) rfl ?_
      refine fX7_total_L24_s hX x2 _ ?_ fu x1 0 s3
      intro x12 s9
      refine s_iinc (lv' := [(3, iv (x2 + 1)), (0, rv B 328), (1, jv x12)]) 2 dX7_total_65 rfl (by decide) rfl ?_
      refine s_goto (tgt := 13) dX7_total_68 (by decide) ?_
      exact s_sub [1, 2, 0] rfl (ih x12 (x2 + 1) s9)
set_option maxHeartbeats 4000000 in
set_option maxRecDepth 100000 in
theorem ctX7_total (B fu : Nat) (σ : Mem) : CtL yX7_total cX7_total 5 (some .long) rmX7_total B [rv B 328] σ (fX7_total fu σ) := by
  refine ctL_intro (own := RX7) (lv := [(0, rv B 328)]) (by decide +kernel) rfl (Nat.le_of_ble_eq_true rfl) rfl (fun X hX => ?_)
  unfold fX7_total
  refine s_aload_n 0 dX7_total_0 rfl rfl ?_
  refine s_iconst dX7_total_1 ?_
  refine s_puti dX7_total_2 ly7 ty7 fl_X7_116 kd_328 rfl po7_20 ⟨rfl, rfl, by decide⟩ (fun s1 => ?_)
  refine s_aload_n 0 dX7_total_5 rfl rfl ?_
  refine s_Vv (rest := []) dX7_total_6 lk_X7_272 meX7_laysLoads (ctX7_laysLoads B fu s1) kd_328 ⟨rfl, by decide⟩ rfl rfl ⟨rfl, rfl, by decide, by decide⟩ (Nat.le_of_ble_eq_true rfl) (fun _ s2 => ?_)
  refine s_lconst (x := 0) dX7_total_9 (by decide) ?_
  refine s_lstore_n (lv' := [(1, jv 0), (0, rv B 328)]) dX7_total_10 rfl (by decide) rfl ?_
  refine s_iconst dX7_total_11 ?_
  refine s_istore_n (lv' := [(3, iv 0), (1, jv 0), (0, rv B 328)]) dX7_total_12 rfl (by decide) rfl ?_
  refine s_sub [2, 1, 0] (lv' := [(0, rv B 328), (1, jv 0), (3, iv 0)]) rfl ?_
  refine fX7_total_L13_s hX _ ?_ fu 0 0 s2
  intro x13 s12
  refine s_aload_n 0 dX7_total_71 rfl rfl ?_
  refine s_iconst dX7_total_72 ?_
  refine s_puti dX7_total_73 ly7 ty7 fl_X7_119 kd_328 rfl po7_19 ⟨rfl, rfl, by decide⟩ (fun s13 => ?_)
  refine s_aload_n 0 dX7_total_76 rfl rfl ?_
  refine s_aload_n 0 dX7_total_77 rfl rfl ?_
  refine s_Vl (rest := [rv B 328]) dX7_total_78 lk_X7_275 meX7_strandedNow (ctX7_strandedNow B fu s13) kd_328 ⟨rfl, by decide⟩ rfl rfl ⟨rfl, rfl, by decide, by decide⟩ (Nat.le_of_ble_eq_true rfl) (fun x14 s14 => ?_)
  refine s_Vv (rest := []) dX7_total_81 lk_X7_211 meX7_tell (ctX7_tell B fu x14 s14) kd_328 ⟨rfl, by decide⟩ rfl rfl ⟨rfl, rfl, by decide, by decide⟩ (Nat.le_of_ble_eq_true rfl) (fun _ s15 => ?_)
  refine s_aload_n 0 dX7_total_84 rfl rfl ?_
  refine s_lload_n 1 dX7_total_85 rfl rfl ?_
  refine s_Vv (rest := []) dX7_total_86 lk_X7_211 meX7_tell (ctX7_tell B fu x13 s15) kd_328 ⟨rfl, by decide⟩ rfl rfl ⟨rfl, rfl, by decide, by decide⟩ (Nat.le_of_ble_eq_true rfl) (fun _ s16 => ?_)
  refine s_aload_n 0 dX7_total_89 rfl rfl ?_
  refine s_Vl (rest := []) dX7_total_90 lk_X7_279 meX7_totalNow (ctX7_totalNow B fu s16) kd_328 ⟨rfl, by decide⟩ rfl rfl ⟨rfl, rfl, by decide, by decide⟩ (Nat.le_of_ble_eq_true rfl) (fun x15 s17 => ?_)
  exact s_lret hX dX7_total_93
abbrev rmX7_fullest : Room := { frames := 9, cells := 0, slots := 0, locals := 204 }
abbrev SX7_fullest (B : Nat) (X : Ctx) := Sim cX7_fullest RX7 4 rmX7_fullest B X
set_option maxHeartbeats 4000000 in
set_option maxRecDepth 100000 in
theorem fX7_fullest_L33_s {B fu : Nat} {X : Ctx} (hX : CxI .int B X) (c1 : Int) (k77 : Int → Mem → PR) (hk77 : ∀ (x6 : Int) (s10 : Mem), SX7_fullest B X (k77 x6 s10) s10 77 [(0, rv B 328), (1, iv x6), (2, iv c1)] []) : ∀ (n : Nat) (x4 : Int) (x5 : Int) (s9 : Mem), SX7_fullest B X (fX7_fullest_L33 fu c1 k77 n x4 x5 s9) s9 33 [(0, rv B 328), (1, iv x4), (2, iv c1), (3, iv x5)] [] := by
  intro n
  induction n with
  | zero => intro _ _ _; exact s_none
  | succ n ih =>
    intro x4 x5 s4
    rw [fX7_fullest_L33]
    refine s_iload_n 3 dX7_fullest_33 rfl rfl ?_
    refine s_aload_n 0 dX7_fullest_34 rfl rfl ?_
    refine s_getr (n := 1) (k' := 330) dX7_fullest_35 ly7 fl_X7_13 kd_328 rfl rfl rfl ?_
    refine s_iload_n 2 dX7_fullest_38 rfl rfl ?_
    refine s_iald 12 dX7_fullest_39 kd_330 (by decide) (fun x7 => ?_)
    refine s_iconst dX7_fullest_40 ?_
    refine s_isub dX7_fullest_41 ?_
    refine s_icmp_ge (tgt := 77) dX7_fullest_42 (by decide) ?_ ?_
    · exact s_sub [0, 1, 2] rfl (hk77 x4 s4)
    · refine s_aload_n 0 dX7_fullest_45 rfl rfl ?_
      refine s_getr (n := 27) (k' := 356) dX7_fullest_46 ly7 fl_X7_101 kd_328 rfl rfl rfl ?_
      refine s_iload_n 2 dX7_fullest_49 rfl rfl ?_
      refine s_iload_n 3 dX7_fullest_50 rfl rfl ?_
      refine s_Si (rest := [rv B 356]) dX7_fullest_51 lk_X7_165 meX7_at (ctX7_at B fu c1 x5 s4) rfl rfl ⟨rfl, rfl, by decide, by decide⟩ (Nat.le_of_ble_eq_true rfl) (fun x8 s5 => ?_)
      refine s_lald 96 dX7_fullest_54 kd_356 (by decide) (fun x9 => ?_)
      refine s_aload_n 0 dX7_fullest_55 rfl rfl ?_
      refine s_getr (n := 27) (k' := 356) dX7_fullest_56 ly7 fl_X7_101 kd_328 rfl rfl rfl ?_
      refine s_iload_n 1 dX7_fullest_59 rfl rfl ?_
      refine s_lald 96 dX7_fullest_60 kd_356 (by decide) (fun x10 => ?_)
      refine s_jn (fun (j1 : Int → Mem → PR) => ∀ (x11 : Int) (s8 : Mem), SX7_fullest B X (j1 x11 s8) s8 71 [(0, rv B 328), (1, iv x11), (2, iv c1), (3, iv x5)] []) ?_ (fun j1 hj1 => ?_)
      · intro x11 s6
        refine s_iinc (lv' := [(3, iv (x5 + 1)), (0, rv B 328), (1, iv x11), (2, iv c1)]) 3 dX7_fullest_71 rfl (by decide) rfl ?_
        refine s_goto (tgt := 33) dX7_fullest_74 (by decide) ?_
        exact s_sub [1, 2, 3, 0] rfl (ih x11 (x5 + 1) s6)
      · refine s_lif_le (tgt := 71) dX7_fullest_61 dX7_fullest_62 (by decide) ?_ ?_
        · exact hj1 x4 s5
        · refine s_iload_n 2 dX7_fullest_65 rfl rfl ?_
          refine s_iload_n 3 dX7_fullest_66 rfl rfl ?_
          refine s_Si (rest := []) dX7_fullest_67 lk_X7_165 meX7_at (ctX7_at B fu c1 x5 s5) rfl rfl ⟨rfl, rfl, by decide, by decide⟩ (Nat.le_of_ble_eq_true rfl) (fun x12 s7 => ?_)
          refine s_istore_n (lv' := [(1, iv x12), (0, rv B 328), (2, iv c1), (3, iv x5)]) dX7_fullest_70 rfl (by decide) rfl ?_
          exact s_sub [1, 0, 2, 3] rfl (hj1 x12 s7)
set_option maxHeartbeats 4000000 in
set_option maxRecDepth 100000 in
theorem fX7_fullest_L23_s {B fu : Nat} {X : Ctx} (hX : CxI .int B X) (k83 : Int → Mem → PR) (hk83 : ∀ (x3 : Int) (s13 : Mem), SX7_fullest B X (k83 x3 s13) s13 83 [(0, rv B 328), (1, iv x3)] []) : ∀ (n : Nat) (x1 : Int) (x2 : Int) (s12 : Mem), SX7_fullest B X (fX7_fullest_L23 fu k83 n x1 x2 s12) s12 23 [(0, rv B 328), (1, iv x1), (2, iv x2)] [] := by
  intro n
  induction n with
  | zero => intro _ _ _; exact s_none
  | succ n ih =>
    intro x1 x2 s3
    rw [fX7_fullest_L23]
    refine s_iload_n 2 dX7_fullest_23 rfl rfl ?_
    refine s_aload_n 0 dX7_fullest_24 rfl rfl ?_
    refine s_geti dX7_fullest_25 ly7 fl_X7_129 kd_328 rfl ?_
    refine s_icmp_ge (tgt := 83) dX7_fullest_28 (by decide) ?_ ?_
    · exact s_sub [0, 1] rfl (hk83 x1 s3)
    · refine s_iconst dX7_fullest_31 ?_
      refine s_istore_n (lv' := [(3, iv 0), (0, rv B 328), (1, iv x1), (2, iv x2)]) dX7_fullest_32 rfl (by decide) rfl ?_
      refine s_sub [1, 2, 3, 0] (lv' := [(0, rv B 328), (1, iv x1), (2, iv x2), (3, iv 0)]) rfl ?_
      refine fX7_fullest_L33_s hX x2 _ ?_ fu x1 0 s3
      intro x13 s11
      refine s_iinc (lv' := [(2, iv (x2 + 1)), (0, rv B 328), (1, iv x13)]) 2 dX7_fullest_77 rfl (by decide) rfl ?_
      refine s_goto (tgt := 23) dX7_fullest_80 (by decide) ?_
      exact s_sub [1, 2, 0] rfl (ih x13 (x2 + 1) s11)
set_option maxHeartbeats 4000000 in
set_option maxRecDepth 100000 in
theorem ctX7_fullest (B fu : Nat) (σ : Mem) : CtI yX7_fullest cX7_fullest 4 (some .int) rmX7_fullest B [rv B 328] σ (fX7_fullest fu σ) := by
  refine ctI_intro (own := RX7) (lv := [(0, rv B 328)]) (by decide +kernel) rfl (Nat.le_of_ble_eq_true rfl) rfl (fun X hX => ?_)
  unfold fX7_fullest
  refine s_aload_n 0 dX7_fullest_0 rfl rfl ?_
  refine s_iconst dX7_fullest_1 ?_
  refine s_puti dX7_fullest_2 ly7 ty7 fl_X7_116 kd_328 rfl po7_20 ⟨rfl, rfl, by decide⟩ (fun s1 => ?_)
  refine s_aload_n 0 dX7_fullest_5 rfl rfl ?_
  refine s_geti dX7_fullest_6 ly7 fl_X7_129 kd_328 rfl ?_
  refine s_if_ne (tgt := 15) dX7_fullest_9 (by decide) ?_ ?_
  · refine s_aload_n 0 dX7_fullest_15 rfl rfl ?_
    refine s_Vv (rest := []) dX7_fullest_16 lk_X7_272 meX7_laysLoads (ctX7_laysLoads B fu s1) kd_328 ⟨rfl, by decide⟩ rfl rfl ⟨rfl, rfl, by decide, by decide⟩ (Nat.le_of_ble_eq_true rfl) (fun _ s2 => ?_)
    refine s_iconst dX7_fullest_19 ?_
    refine s_istore_n (lv' := [(1, iv 0), (0, rv B 328)]) dX7_fullest_20 rfl (by decide) rfl ?_
    refine s_iconst dX7_fullest_21 ?_
    refine s_istore_n (lv' := [(2, iv 0), (1, iv 0), (0, rv B 328)]) dX7_fullest_22 rfl (by decide) rfl ?_
    refine s_sub [2, 1, 0] (lv' := [(0, rv B 328), (1, iv 0), (2, iv 0)]) rfl ?_
    refine fX7_fullest_L23_s hX _ ?_ fu 0 0 s2
    intro x14 s14
    refine s_aload_n 0 dX7_fullest_83 rfl rfl ?_
    refine s_iconst dX7_fullest_84 ?_
    refine s_puti dX7_fullest_85 ly7 ty7 fl_X7_119 kd_328 rfl po7_19 ⟨rfl, rfl, by decide⟩ (fun s15 => ?_)
    refine s_aload_n 0 dX7_fullest_88 rfl rfl ?_
    refine s_aload_n 0 dX7_fullest_89 rfl rfl ?_
    refine s_getr (n := 27) (k' := 356) dX7_fullest_90 ly7 fl_X7_101 kd_328 rfl rfl rfl ?_
    refine s_iload_n 1 dX7_fullest_93 rfl rfl ?_
    refine s_lald 96 dX7_fullest_94 kd_356 (by decide) (fun x15 => ?_)
    refine s_Vv (rest := []) dX7_fullest_95 lk_X7_211 meX7_tell (ctX7_tell B fu x15 s15) kd_328 ⟨rfl, by decide⟩ rfl rfl ⟨rfl, rfl, by decide, by decide⟩ (Nat.le_of_ble_eq_true rfl) (fun _ s16 => ?_)
    refine s_bipush dX7_fullest_98 (by decide) ?_
    refine s_iload_n 1 dX7_fullest_100 rfl rfl ?_
    refine s_bipush dX7_fullest_101 (by decide) ?_
    refine s_idiv dX7_fullest_103 ?_
    refine s_imul dX7_fullest_104 ?_
    refine s_iload_n 1 dX7_fullest_105 rfl rfl ?_
    refine s_bipush dX7_fullest_106 (by decide) ?_
    refine s_irem dX7_fullest_108 ?_
    refine s_iadd dX7_fullest_109 ?_
    exact s_iret hX dX7_fullest_110
  · refine s_bipush dX7_fullest_12 (by decide) ?_
    exact s_iret hX dX7_fullest_14
