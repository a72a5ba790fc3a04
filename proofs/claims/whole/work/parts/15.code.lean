abbrev rmX7_adds : Room := { frames := 4, cells := 0, slots := 0, locals := 92 }
abbrev SX7_adds (B : Nat) (X : Ctx) := Sim cX7_adds RX7 1 rmX7_adds B X
set_option maxHeartbeats 4000000 in
set_option maxRecDepth 100000 in
theorem ctX7_adds (B fu : Nat) (σ : Mem) : CtI yX7_adds cX7_adds 1 (some .int) rmX7_adds B [rv B 328] σ (fX7_adds fu σ) := by
  refine ctI_intro (own := RX7) (lv := [(0, rv B 328)]) (by decide +kernel) rfl (Nat.le_of_ble_eq_true rfl) rfl (fun X hX => ?_)
  unfold fX7_adds
  refine s_aload_n 0 dX7_adds_0 rfl rfl ?_
  refine s_iconst dX7_adds_1 ?_
  refine s_puti dX7_adds_2 ly7 ty7 fl_X7_116 kd_328 rfl po7_20 ⟨rfl, rfl, by decide⟩ (fun s1 => ?_)
  refine s_aload_n 0 dX7_adds_5 rfl rfl ?_
  refine s_Vv (rest := []) dX7_adds_6 lk_X7_183 meX7_begin (ctX7_begin B fu s1) kd_328 ⟨rfl, by decide⟩ rfl rfl ⟨rfl, rfl, by decide, by decide⟩ (Nat.le_of_ble_eq_true rfl) (fun _ s2 => ?_)
  refine s_aload_n 0 dX7_adds_9 rfl rfl ?_
  refine s_geti dX7_adds_10 ly7 fl_X7_129 kd_328 rfl ?_
  refine s_bipush dX7_adds_13 (by decide) ?_
  refine s_jn (fun (j1 : Mem → PR) => ∀ (s14 : Mem), SX7_adds B X (j1 s14) s14 40 [(0, rv B 328)] []) ?_ (fun j1 hj1 => ?_)
  · intro s3
    refine s_aload_n 0 dX7_adds_40 rfl rfl ?_
    refine s_geti dX7_adds_41 ly7 fl_X7_144 kd_328 rfl ?_
    refine s_iconst dX7_adds_44 ?_
    refine s_jn (fun (j2 : Mem → PR) => ∀ (s10 : Mem), SX7_adds B X (j2 s10) s10 56 [(0, rv B 328)] []) ?_ (fun j2 hj2 => ?_)
    · intro s4
      refine s_aload_n 0 dX7_adds_56 rfl rfl ?_
      refine s_geti dX7_adds_57 ly7 fl_X7_144 kd_328 rfl ?_
      refine s_iconst dX7_adds_60 ?_
      refine s_jn (fun (j3 : Mem → PR) => ∀ (s8 : Mem), SX7_adds B X (j3 s8) s8 83 [(0, rv B 328)] []) ?_ (fun j3 hj3 => ?_)
      · intro s5
        refine s_aload_n 0 dX7_adds_83 rfl rfl ?_
        refine s_geti dX7_adds_84 ly7 fl_X7_144 kd_328 rfl ?_
        refine s_iconst dX7_adds_87 ?_
        refine s_icmp_eq (tgt := 99) dX7_adds_88 (by decide) ?_ ?_
        · refine s_aload_n 0 dX7_adds_99 rfl rfl ?_
          refine s_Vv (rest := []) dX7_adds_100 lk_X7_189 meX7_takesRead (ctX7_takesRead B fu s5) kd_328 ⟨rfl, by decide⟩ rfl rfl ⟨rfl, rfl, by decide, by decide⟩ (Nat.le_of_ble_eq_true rfl) (fun _ s6 => ?_)
          refine s_aload_n 0 dX7_adds_103 rfl rfl ?_
          refine s_geti dX7_adds_104 ly7 fl_X7_129 kd_328 rfl ?_
          exact s_iret hX dX7_adds_107
        · refine s_bipush dX7_adds_91 (by decide) ?_
          refine s_aload_n 0 dX7_adds_93 rfl rfl ?_
          refine s_geti dX7_adds_94 ly7 fl_X7_144 kd_328 rfl ?_
          refine s_isub dX7_adds_97 ?_
          exact s_iret hX dX7_adds_98
      · refine s_icmp_ne (tgt := 83) dX7_adds_61 (by decide) ?_ ?_
        · exact hj3 s4
        · refine s_aload_n 0 dX7_adds_64 rfl rfl ?_
          refine s_geti dX7_adds_65 ly7 fl_X7_141 kd_328 rfl ?_
          refine s_aload_n 0 dX7_adds_68 rfl rfl ?_
          refine s_geti dX7_adds_69 ly7 fl_X7_138 kd_328 rfl ?_
          refine s_icmp_ge (tgt := 83) dX7_adds_72 (by decide) ?_ ?_
          · exact hj3 s4
          · refine s_aload_n 0 dX7_adds_75 rfl rfl ?_
            refine s_aload_n 0 dX7_adds_76 rfl rfl ?_
            refine s_geti dX7_adds_77 ly7 fl_X7_141 kd_328 rfl ?_
            refine s_Vv (rest := []) dX7_adds_80 lk_X7_158 meX7_fault (ctX7_fault B fu (s4 328 27) s4) kd_328 ⟨rfl, by decide⟩ rfl rfl ⟨rfl, rfl, by decide, by decide⟩ (Nat.le_of_ble_eq_true rfl) (fun _ s7 => ?_)
            exact hj3 s7
    · refine s_icmp_ne (tgt := 56) dX7_adds_45 (by decide) ?_ ?_
      · exact hj2 s3
      · refine s_aload_n 0 dX7_adds_48 rfl rfl ?_
        refine s_aload_n 0 dX7_adds_49 rfl rfl ?_
        refine s_geti dX7_adds_50 ly7 fl_X7_129 kd_328 rfl ?_
        refine s_Vv (rest := []) dX7_adds_53 lk_X7_186 meX7_readLine (ctX7_readLine B fu (s3 328 9) s3) kd_328 ⟨rfl, by decide⟩ rfl rfl ⟨rfl, rfl, by decide, by decide⟩ (Nat.le_of_ble_eq_true rfl) (fun _ s9 => ?_)
        exact hj2 s9
  · refine s_icmp_ne (tgt := 40) dX7_adds_15 (by decide) ?_ ?_
    · exact hj1 s2
    · refine s_aload_n 0 dX7_adds_18 rfl rfl ?_
      refine s_Vi (rest := []) dX7_adds_19 lk_X7_150 meX7_sees (ctX7_sees B fu s2) kd_328 ⟨rfl, by decide⟩ rfl rfl ⟨rfl, rfl, by decide, by decide⟩ (Nat.le_of_ble_eq_true rfl) (fun x1 s11 => ?_)
      refine s_i2l dX7_adds_22 ?_
      refine s_ldc2 (x := 48) dX7_adds_23 cl_X7_154 (by decide) ?_
      refine s_ldc2 (x := 57) dX7_adds_26 cl_X7_156 (by decide) ?_
      refine s_Si (rest := []) dX7_adds_29 lk_X7_125 meX7_in (ctX7_in B fu (w32 x1) 48 57 s11) rfl rfl ⟨rfl, rfl, by decide, by decide⟩ (Nat.le_of_ble_eq_true rfl) (fun x2 s12 => ?_)
      refine s_if_eq (tgt := 40) dX7_adds_32 (by decide) ?_ ?_
      · exact hj1 s12
      · refine s_aload_n 0 dX7_adds_35 rfl rfl ?_
        refine s_iconst dX7_adds_36 ?_
        refine s_Vv (rest := []) dX7_adds_37 lk_X7_158 meX7_fault (ctX7_fault B fu 0 s12) kd_328 ⟨rfl, by decide⟩ rfl rfl ⟨rfl, rfl, by decide, by decide⟩ (Nat.le_of_ble_eq_true rfl) (fun _ s13 => ?_)
        exact hj1 s13
abbrev rmX7_drops : Room := { frames := 2, cells := 0, slots := 0, locals := 46 }
abbrev SX7_drops (B : Nat) (X : Ctx) := Sim cX7_drops RX7 4 rmX7_drops B X
set_option maxHeartbeats 4000000 in
set_option maxRecDepth 100000 in
theorem fX7_drops_L107_s {B fu : Nat} {X : Ctx} (hX : CxI .int B X) (c1 : Int) (k207 : Mem → PR) (hk207 : ∀ (s24 : Mem), SX7_drops B X (k207 s24) s24 207 [(0, rv B 328), (2, iv c1)] []) : ∀ (n : Nat) (x8 : Int) (s23 : Mem), SX7_drops B X (fX7_drops_L107 fu c1 k207 n x8 s23) s23 107 [(0, rv B 328), (2, iv c1), (3, iv x8)] [] := by
  intro n
  induction n with
  | zero => intro _ _; exact s_none
  | succ n ih =>
    intro x8 s10
    rw [fX7_drops_L107]
    refine s_iload_n 2 dX7_drops_107 rfl rfl ?_
    refine s_bipush dX7_drops_108 (by decide) ?_
    refine s_icmp_ge (tgt := 207) dX7_drops_110 (by decide) ?_ ?_
    · exact s_sub [0, 1] rfl (hk207 s10)
    · refine s_aload_n 0 dX7_drops_113 rfl rfl ?_
      refine s_getr (n := 2) (k' := 331) dX7_drops_114 ly7 fl_X7_16 kd_328 rfl rfl rfl ?_
      refine s_iload_n 1 dX7_drops_117 rfl rfl ?_
      refine s_iload_n 2 dX7_drops_118 rfl rfl ?_
      refine s_Si (rest := [rv B 331]) dX7_drops_119 lk_X7_165 meX7_at (ctX7_at B fu c1 x8 s10) rfl rfl ⟨rfl, rfl, by decide, by decide⟩ (Nat.le_of_ble_eq_true rfl) (fun x9 s11 => ?_)
      refine s_aload_n 0 dX7_drops_122 rfl rfl ?_
      refine s_getr (n := 2) (k' := 331) dX7_drops_123 ly7 fl_X7_16 kd_328 rfl rfl rfl ?_
      refine s_iload_n 1 dX7_drops_126 rfl rfl ?_
      refine s_iconst dX7_drops_127 ?_
      refine s_iadd dX7_drops_128 ?_
      refine s_iload_n 2 dX7_drops_129 rfl rfl ?_
      refine s_Si (rest := [rv B 331, iv x9, rv B 331]) dX7_drops_130 lk_X7_165 meX7_at (ctX7_at B fu (c1 + 1) x8 s11) rfl rfl ⟨rfl, rfl, by decide, by decide⟩ (Nat.le_of_ble_eq_true rfl) (fun x10 s12 => ?_)
      refine s_iald 96 dX7_drops_133 kd_331 (by decide) (fun x11 => ?_)
      refine s_iast 96 dX7_drops_134 kd_331 (by decide) (fun s13 => ?_)
      refine s_aload_n 0 dX7_drops_135 rfl rfl ?_
      refine s_getr (n := 3) (k' := 332) dX7_drops_136 ly7 fl_X7_19 kd_328 rfl rfl rfl ?_
      refine s_iload_n 1 dX7_drops_139 rfl rfl ?_
      refine s_iload_n 2 dX7_drops_140 rfl rfl ?_
      refine s_Si (rest := [rv B 332]) dX7_drops_141 lk_X7_165 meX7_at (ctX7_at B fu c1 x8 s13) rfl rfl ⟨rfl, rfl, by decide, by decide⟩ (Nat.le_of_ble_eq_true rfl) (fun x12 s14 => ?_)
      refine s_aload_n 0 dX7_drops_144 rfl rfl ?_
      refine s_getr (n := 3) (k' := 332) dX7_drops_145 ly7 fl_X7_19 kd_328 rfl rfl rfl ?_
      refine s_iload_n 1 dX7_drops_148 rfl rfl ?_
      refine s_iconst dX7_drops_149 ?_
      refine s_iadd dX7_drops_150 ?_
      refine s_iload_n 2 dX7_drops_151 rfl rfl ?_
      refine s_Si (rest := [rv B 332, iv x12, rv B 332]) dX7_drops_152 lk_X7_165 meX7_at (ctX7_at B fu (c1 + 1) x8 s14) rfl rfl ⟨rfl, rfl, by decide, by decide⟩ (Nat.le_of_ble_eq_true rfl) (fun x13 s15 => ?_)
      refine s_iald 96 dX7_drops_155 kd_332 (by decide) (fun x14 => ?_)
      refine s_iast 96 dX7_drops_156 kd_332 (by decide) (fun s16 => ?_)
      refine s_aload_n 0 dX7_drops_157 rfl rfl ?_
      refine s_getr (n := 4) (k' := 333) dX7_drops_158 ly7 fl_X7_22 kd_328 rfl rfl rfl ?_
      refine s_iload_n 1 dX7_drops_161 rfl rfl ?_
      refine s_iload_n 2 dX7_drops_162 rfl rfl ?_
      refine s_Si (rest := [rv B 333]) dX7_drops_163 lk_X7_165 meX7_at (ctX7_at B fu c1 x8 s16) rfl rfl ⟨rfl, rfl, by decide, by decide⟩ (Nat.le_of_ble_eq_true rfl) (fun x15 s17 => ?_)
      refine s_aload_n 0 dX7_drops_166 rfl rfl ?_
      refine s_getr (n := 4) (k' := 333) dX7_drops_167 ly7 fl_X7_22 kd_328 rfl rfl rfl ?_
      refine s_iload_n 1 dX7_drops_170 rfl rfl ?_
      refine s_iconst dX7_drops_171 ?_
      refine s_iadd dX7_drops_172 ?_
      refine s_iload_n 2 dX7_drops_173 rfl rfl ?_
      refine s_Si (rest := [rv B 333, iv x15, rv B 333]) dX7_drops_174 lk_X7_165 meX7_at (ctX7_at B fu (c1 + 1) x8 s17) rfl rfl ⟨rfl, rfl, by decide, by decide⟩ (Nat.le_of_ble_eq_true rfl) (fun x16 s18 => ?_)
      refine s_lald 96 dX7_drops_177 kd_333 (by decide) (fun x17 => ?_)
      refine s_last 96 dX7_drops_178 kd_333 (by decide) (fun s19 => ?_)
      refine s_aload_n 0 dX7_drops_179 rfl rfl ?_
      refine s_getr (n := 5) (k' := 334) dX7_drops_180 ly7 fl_X7_26 kd_328 rfl rfl rfl ?_
      refine s_iload_n 1 dX7_drops_183 rfl rfl ?_
      refine s_iload_n 2 dX7_drops_184 rfl rfl ?_
      refine s_Si (rest := [rv B 334]) dX7_drops_185 lk_X7_165 meX7_at (ctX7_at B fu c1 x8 s19) rfl rfl ⟨rfl, rfl, by decide, by decide⟩ (Nat.le_of_ble_eq_true rfl) (fun x18 s20 => ?_)
      refine s_aload_n 0 dX7_drops_188 rfl rfl ?_
      refine s_getr (n := 5) (k' := 334) dX7_drops_189 ly7 fl_X7_26 kd_328 rfl rfl rfl ?_
      refine s_iload_n 1 dX7_drops_192 rfl rfl ?_
      refine s_iconst dX7_drops_193 ?_
      refine s_iadd dX7_drops_194 ?_
      refine s_iload_n 2 dX7_drops_195 rfl rfl ?_
      refine s_Si (rest := [rv B 334, iv x18, rv B 334]) dX7_drops_196 lk_X7_165 meX7_at (ctX7_at B fu (c1 + 1) x8 s20) rfl rfl ⟨rfl, rfl, by decide, by decide⟩ (Nat.le_of_ble_eq_true rfl) (fun x19 s21 => ?_)
      refine s_lald 96 dX7_drops_199 kd_334 (by decide) (fun x20 => ?_)
      refine s_last 96 dX7_drops_200 kd_334 (by decide) (fun s22 => ?_)
      refine s_iinc (lv' := [(3, iv (x8 + 1)), (0, rv B 328), (2, iv c1)]) 2 dX7_drops_201 rfl (by decide) rfl ?_
      refine s_goto (tgt := 107) dX7_drops_204 (by decide) ?_
      exact s_sub [1, 2, 0] rfl (ih (x8 + 1) s22)
set_option maxHeartbeats 4000000 in
set_option maxRecDepth 100000 in
theorem fX7_drops_L27_s {B fu : Nat} {X : Ctx} (hX : CxI .int B X) (k213 : Mem → PR) (hk213 : ∀ (s27 : Mem), SX7_drops B X (k213 s27) s27 213 [(0, rv B 328)] []) : ∀ (n : Nat) (x2 : Int) (s26 : Mem), SX7_drops B X (fX7_drops_L27 fu k213 n x2 s26) s26 27 [(0, rv B 328), (2, iv x2)] [] := by
  intro n
  induction n with
  | zero => intro _ _; exact s_none
  | succ n ih =>
    intro x2 s4
    rw [fX7_drops_L27]
    refine s_iload_n 1 dX7_drops_27 rfl rfl ?_
    refine s_aload_n 0 dX7_drops_28 rfl rfl ?_
    refine s_geti dX7_drops_29 ly7 fl_X7_129 kd_328 rfl ?_
    refine s_icmp_ge (tgt := 213) dX7_drops_32 (by decide) ?_ ?_
    · exact s_sub [0] rfl (hk213 s4)
    · refine s_aload_n 0 dX7_drops_35 rfl rfl ?_
      refine s_getr (n := 0) (k' := 329) dX7_drops_36 ly7 fl_X7_9 kd_328 rfl rfl rfl ?_
      refine s_iload_n 1 dX7_drops_39 rfl rfl ?_
      refine s_aload_n 0 dX7_drops_40 rfl rfl ?_
      refine s_getr (n := 0) (k' := 329) dX7_drops_41 ly7 fl_X7_9 kd_328 rfl rfl rfl ?_
      refine s_iload_n 1 dX7_drops_44 rfl rfl ?_
      refine s_iconst dX7_drops_45 ?_
      refine s_iadd dX7_drops_46 ?_
      refine s_iald 12 dX7_drops_47 kd_329 (by decide) (fun x3 => ?_)
      refine s_iast 12 dX7_drops_48 kd_329 (by decide) (fun s5 => ?_)
      refine s_aload_n 0 dX7_drops_49 rfl rfl ?_
      refine s_getr (n := 1) (k' := 330) dX7_drops_50 ly7 fl_X7_13 kd_328 rfl rfl rfl ?_
      refine s_iload_n 1 dX7_drops_53 rfl rfl ?_
      refine s_aload_n 0 dX7_drops_54 rfl rfl ?_
      refine s_getr (n := 1) (k' := 330) dX7_drops_55 ly7 fl_X7_13 kd_328 rfl rfl rfl ?_
      refine s_iload_n 1 dX7_drops_58 rfl rfl ?_
      refine s_iconst dX7_drops_59 ?_
      refine s_iadd dX7_drops_60 ?_
      refine s_iald 12 dX7_drops_61 kd_330 (by decide) (fun x4 => ?_)
      refine s_iast 12 dX7_drops_62 kd_330 (by decide) (fun s6 => ?_)
      refine s_aload_n 0 dX7_drops_63 rfl rfl ?_
      refine s_getr (n := 6) (k' := 335) dX7_drops_64 ly7 fl_X7_29 kd_328 rfl rfl rfl ?_
      refine s_iload_n 1 dX7_drops_67 rfl rfl ?_
      refine s_aload_n 0 dX7_drops_68 rfl rfl ?_
      refine s_getr (n := 6) (k' := 335) dX7_drops_69 ly7 fl_X7_29 kd_328 rfl rfl rfl ?_
      refine s_iload_n 1 dX7_drops_72 rfl rfl ?_
      refine s_iconst dX7_drops_73 ?_
      refine s_iadd dX7_drops_74 ?_
      refine s_iald 12 dX7_drops_75 kd_335 (by decide) (fun x5 => ?_)
      refine s_iast 12 dX7_drops_76 kd_335 (by decide) (fun s7 => ?_)
      refine s_aload_n 0 dX7_drops_77 rfl rfl ?_
      refine s_getr (n := 7) (k' := 336) dX7_drops_78 ly7 fl_X7_32 kd_328 rfl rfl rfl ?_
      refine s_iload_n 1 dX7_drops_81 rfl rfl ?_
      refine s_aload_n 0 dX7_drops_82 rfl rfl ?_
      refine s_getr (n := 7) (k' := 336) dX7_drops_83 ly7 fl_X7_32 kd_328 rfl rfl rfl ?_
      refine s_iload_n 1 dX7_drops_86 rfl rfl ?_
      refine s_iconst dX7_drops_87 ?_
      refine s_iadd dX7_drops_88 ?_
      refine s_iald 12 dX7_drops_89 kd_336 (by decide) (fun x6 => ?_)
      refine s_iast 12 dX7_drops_90 kd_336 (by decide) (fun s8 => ?_)
      refine s_aload_n 0 dX7_drops_91 rfl rfl ?_
      refine s_getr (n := 8) (k' := 337) dX7_drops_92 ly7 fl_X7_35 kd_328 rfl rfl rfl ?_
      refine s_iload_n 1 dX7_drops_95 rfl rfl ?_
      refine s_aload_n 0 dX7_drops_96 rfl rfl ?_
      refine s_getr (n := 8) (k' := 337) dX7_drops_97 ly7 fl_X7_35 kd_328 rfl rfl rfl ?_
      refine s_iload_n 1 dX7_drops_100 rfl rfl ?_
      refine s_iconst dX7_drops_101 ?_
      refine s_iadd dX7_drops_102 ?_
      refine s_zald 12 dX7_drops_103 kd_337 (by decide) (fun x7 => ?_)
      refine s_zast 12 dX7_drops_104 kd_337 (by decide) (fun s9 => ?_)
      refine s_iconst dX7_drops_105 ?_
      refine s_istore_n (lv' := [(3, iv 0), (0, rv B 328), (2, iv x2)]) dX7_drops_106 rfl (by decide) rfl ?_
      refine s_sub [1, 2, 0] (lv' := [(0, rv B 328), (2, iv x2), (3, iv 0)]) rfl ?_
      refine fX7_drops_L107_s hX x2 _ ?_ fu 0 s9
      intro s25
      refine s_iinc (lv' := [(2, iv (x2 + 1)), (0, rv B 328)]) 1 dX7_drops_207 rfl (by decide) rfl ?_
      refine s_goto (tgt := 27) dX7_drops_210 (by decide) ?_
      exact s_sub [1, 0] rfl (ih (x2 + 1) s25)
set_option maxHeartbeats 4000000 in
set_option maxRecDepth 100000 in
theorem ctX7_drops (B fu : Nat) (a0 : Int) (σ : Mem) : CtI yX7_drops cX7_drops 4 (some .int) rmX7_drops B [rv B 328, iv a0] σ (fX7_drops fu a0 σ) := by
  refine ctI_intro (own := RX7) (lv := [(0, rv B 328), (1, iv a0)]) (by decide +kernel) rfl (Nat.le_of_ble_eq_true rfl) rfl (fun X hX => ?_)
  unfold fX7_drops
  refine s_aload_n 0 dX7_drops_0 rfl rfl ?_
  refine s_iconst dX7_drops_1 ?_
  refine s_puti dX7_drops_2 ly7 ty7 fl_X7_116 kd_328 rfl po7_20 ⟨rfl, rfl, by decide⟩ (fun s1 => ?_)
  refine s_aload_n 0 dX7_drops_5 rfl rfl ?_
  refine s_iload_n 1 dX7_drops_6 rfl rfl ?_
  refine s_Vi (rest := []) dX7_drops_7 lk_X7_134 meX7_isLine (ctX7_isLine B fu a0 s1) kd_328 ⟨rfl, by decide⟩ rfl rfl ⟨rfl, rfl, by decide, by decide⟩ (Nat.le_of_ble_eq_true rfl) (fun x1 s2 => ?_)
  refine s_if_ne (tgt := 15) dX7_drops_10 (by decide) ?_ ?_
  · refine s_aload_n 0 dX7_drops_15 rfl rfl ?_
    refine s_dup dX7_drops_16 rfl ?_
    refine s_geti dX7_drops_17 ly7 fl_X7_129 kd_328 rfl ?_
    refine s_iconst dX7_drops_20 ?_
    refine s_isub dX7_drops_21 ?_
    refine s_puti dX7_drops_22 ly7 ty7 fl_X7_129 kd_328 rfl po7_9 ⟨rfl, rfl, by decide⟩ (fun s3 => ?_)
    refine s_iload_n 1 dX7_drops_25 rfl rfl ?_
    refine s_istore_n (lv' := [(2, iv a0), (0, rv B 328), (1, iv a0)]) dX7_drops_26 rfl (by decide) rfl ?_
    refine s_sub [1, 0] (lv' := [(0, rv B 328), (2, iv a0)]) rfl ?_
    refine fX7_drops_L27_s hX _ ?_ fu a0 s3
    intro s28
    refine s_aload_n 0 dX7_drops_213 rfl rfl ?_
    refine s_geti dX7_drops_214 ly7 fl_X7_129 kd_328 rfl ?_
    exact s_iret hX dX7_drops_217
  · refine s_iconst dX7_drops_13 ?_
    exact s_iret hX dX7_drops_14
abbrev rmX7_waiting : Room := { frames := 1, cells := 0, slots := 0, locals := 25 }
abbrev SX7_waiting (B : Nat) (X : Ctx) := Sim cX7_waiting RX7 3 rmX7_waiting B X
set_option maxHeartbeats 4000000 in
set_option maxRecDepth 100000 in
theorem ctX7_waiting (B fu : Nat) (a0 : Int) (σ : Mem) : CtI yX7_waiting cX7_waiting 3 (some .int) rmX7_waiting B [rv B 328, iv a0] σ (fX7_waiting fu a0 σ) := by
  refine ctI_intro (own := RX7) (lv := [(0, rv B 328), (1, iv a0)]) (by decide +kernel) rfl (Nat.le_of_ble_eq_true rfl) rfl (fun X hX => ?_)
  unfold fX7_waiting
  refine s_aload_n 0 dX7_waiting_0 rfl rfl ?_
  refine s_iconst dX7_waiting_1 ?_
  refine s_puti dX7_waiting_2 ly7 ty7 fl_X7_116 kd_328 rfl po7_20 ⟨rfl, rfl, by decide⟩ (fun s1 => ?_)
  refine s_iload_n 1 dX7_waiting_5 rfl rfl ?_
  refine s_i2l dX7_waiting_6 ?_
  refine s_lconst (x := 1) dX7_waiting_7 (by decide) ?_
  refine s_ldc2 (x := 100) dX7_waiting_8 cl_X7_195 (by decide) ?_
  refine s_Si (rest := []) dX7_waiting_11 lk_X7_125 meX7_in (ctX7_in B fu (w32 a0) 1 100 s1) rfl rfl ⟨rfl, rfl, by decide, by decide⟩ (Nat.le_of_ble_eq_true rfl) (fun x1 s2 => ?_)
  refine s_if_ne (tgt := 19) dX7_waiting_14 (by decide) ?_ ?_
  · refine s_aload_n 0 dX7_waiting_19 rfl rfl ?_
    refine s_geti dX7_waiting_20 ly7 fl_X7_39 kd_328 rfl ?_
    refine s_lti (fun x2 => ?_)
    refine s_istore_n (lv' := [(2, iv x2), (0, rv B 328), (1, iv a0)]) dX7_waiting_23 rfl (by decide) rfl ?_
    refine s_aload_n 1 dX7_waiting_24 rfl rfl ?_
    refine s_iload_n 2 dX7_waiting_25 rfl rfl ?_
    refine s_puti dX7_waiting_26 ly7 ty7 fl_X7_39 kd_328 rfl po7_10 ⟨rfl, rfl, by decide⟩ (fun s3 => ?_)
    refine s_iload_n 0 dX7_waiting_29 rfl rfl ?_
    exact s_iret hX dX7_waiting_30
  · refine s_iconst dX7_waiting_17 ?_
    exact s_iret hX dX7_waiting_18
abbrev rmX7_goal : Room := { frames := 2, cells := 0, slots := 0, locals := 45 }
abbrev SX7_goal (B : Nat) (X : Ctx) := Sim cX7_goal RX7 3 rmX7_goal B X
set_option maxHeartbeats 4000000 in
set_option maxRecDepth 100000 in
theorem ctX7_goal (B fu : Nat) (a0 : Int) (σ : Mem) : CtI yX7_goal cX7_goal 3 (some .int) rmX7_goal B [rv B 328, iv a0] σ (fX7_goal fu a0 σ) := by
  refine ctI_intro (own := RX7) (lv := [(0, rv B 328), (1, iv a0)]) (by decide +kernel) rfl (Nat.le_of_ble_eq_true rfl) rfl (fun X hX => ?_)
  unfold fX7_goal
  refine s_aload_n 0 dX7_goal_0 rfl rfl ?_
  refine s_iconst dX7_goal_1 ?_
  refine s_puti dX7_goal_2 ly7 ty7 fl_X7_116 kd_328 rfl po7_20 ⟨rfl, rfl, by decide⟩ (fun s1 => ?_)
  refine s_iload_n 1 dX7_goal_5 rfl rfl ?_
  refine s_Si (rest := []) dX7_goal_6 lk_X7_162 meX7_isStop (ctX7_isStop B fu a0 s1) rfl rfl ⟨rfl, rfl, by decide, by decide⟩ (Nat.le_of_ble_eq_true rfl) (fun x1 s2 => ?_)
  refine s_if_ne (tgt := 14) dX7_goal_9 (by decide) ?_ ?_
  · refine s_aload_n 0 dX7_goal_14 rfl rfl ?_
    refine s_geti dX7_goal_15 ly7 fl_X7_197 kd_328 rfl ?_
    refine s_lti (fun x2 => ?_)
    refine s_istore_n (lv' := [(2, iv x2), (0, rv B 328), (1, iv a0)]) dX7_goal_18 rfl (by decide) rfl ?_
    refine s_aload_n 1 dX7_goal_19 rfl rfl ?_
    refine s_iload_n 2 dX7_goal_20 rfl rfl ?_
    refine s_puti dX7_goal_21 ly7 ty7 fl_X7_197 kd_328 rfl po7_11 ⟨rfl, rfl, by decide⟩ (fun s3 => ?_)
    refine s_iload_n 0 dX7_goal_24 rfl rfl ?_
    exact s_iret hX dX7_goal_25
  · refine s_iconst dX7_goal_12 ?_
    exact s_iret hX dX7_goal_13
abbrev rmX7_riders : Room := { frames := 2, cells := 0, slots := 0, locals := 45 }
abbrev SX7_riders (B : Nat) (X : Ctx) := Sim cX7_riders RX7 4 rmX7_riders B X
set_option maxHeartbeats 4000000 in
set_option maxRecDepth 100000 in
theorem ctX7_riders (B fu : Nat) (a0 : Int) (a1 : Int) (σ : Mem) : CtI yX7_riders cX7_riders 4 (some .int) rmX7_riders B [rv B 328, iv a0, iv a1] σ (fX7_riders fu a0 a1 σ) := by
  refine ctI_intro (own := RX7) (lv := [(0, rv B 328), (1, iv a0), (2, iv a1)]) (by decide +kernel) rfl (Nat.le_of_ble_eq_true rfl) rfl (fun X hX => ?_)
  unfold fX7_riders
  refine s_aload_n 0 dX7_riders_0 rfl rfl ?_
  refine s_iconst dX7_riders_1 ?_
  refine s_puti dX7_riders_2 ly7 ty7 fl_X7_116 kd_328 rfl po7_20 ⟨rfl, rfl, by decide⟩ (fun s1 => ?_)
  refine s_iload_n 1 dX7_riders_5 rfl rfl ?_
  refine s_Si (rest := []) dX7_riders_6 lk_X7_162 meX7_isStop (ctX7_isStop B fu a0 s1) rfl rfl ⟨rfl, rfl, by decide, by decide⟩ (Nat.le_of_ble_eq_true rfl) (fun x1 s2 => ?_)
  refine s_jn (fun (j1 : Mem → PR) => ∀ (s6 : Mem), SX7_riders B X (j1 s6) s6 24 [] []) ?_ (fun j1 hj1 => ?_)
  · intro s3
    refine s_iconst dX7_riders_24 ?_
    exact s_iret hX dX7_riders_25
  · refine s_if_eq (tgt := 24) dX7_riders_9 (by decide) ?_ ?_
    · exact s_sub [] rfl (hj1 s2)
    · refine s_iload_n 2 dX7_riders_12 rfl rfl ?_
      refine s_i2l dX7_riders_13 ?_
      refine s_lconst (x := 0) dX7_riders_14 (by decide) ?_
      refine s_ldc2 (x := 9999) dX7_riders_15 cl_X7_200 (by decide) ?_
      refine s_Si (rest := []) dX7_riders_18 lk_X7_125 meX7_in (ctX7_in B fu (w32 a1) 0 9999 s2) rfl rfl ⟨rfl, rfl, by decide, by decide⟩ (Nat.le_of_ble_eq_true rfl) (fun x2 s4 => ?_)
      refine s_if_ne (tgt := 26) dX7_riders_21 (by decide) ?_ ?_
      · refine s_aload_n 0 dX7_riders_26 rfl rfl ?_
        refine s_getr (n := 9) (k' := 338) dX7_riders_27 ly7 fl_X7_43 kd_328 rfl rfl rfl ?_
        refine s_iload_n 1 dX7_riders_30 rfl rfl ?_
        refine s_iald 10 dX7_riders_31 kd_338 (by decide) (fun x3 => ?_)
        refine s_istore_n (lv' := [(3, iv x3), (0, rv B 328), (1, iv a0), (2, iv a1)]) dX7_riders_32 rfl (by decide) rfl ?_
        refine s_aload_n 1 dX7_riders_33 rfl rfl ?_
        refine s_getr (n := 9) (k' := 338) dX7_riders_34 ly7 fl_X7_43 kd_328 rfl rfl rfl ?_
        refine s_iload_n 2 dX7_riders_37 rfl rfl ?_
        refine s_iload_n 3 dX7_riders_38 rfl rfl ?_
        refine s_iast 10 dX7_riders_39 kd_338 (by decide) (fun s5 => ?_)
        refine s_iload_n 0 dX7_riders_40 rfl rfl ?_
        exact s_iret hX dX7_riders_41
      · exact s_sub [] rfl (hj1 s4)
abbrev rmX7_outMany : Room := { frames := 0, cells := 0, slots := 0, locals := 0 }
abbrev SX7_outMany (B : Nat) (X : Ctx) := Sim cX7_outMany RX7 3 rmX7_outMany B X
set_option maxHeartbeats 4000000 in
set_option maxRecDepth 100000 in
theorem fX7_outMany_L4_s {B fu : Nat} {X : Ctx} (hX : CxI .int B X) (k35 : Int → Mem → PR) (hk35 : ∀ (x3 : Int) (s5 : Mem), SX7_outMany B X (k35 x3 s5) s5 35 [(1, iv x3)] []) : ∀ (n : Nat) (x1 : Int) (x2 : Int) (s4 : Mem), SX7_outMany B X (fX7_outMany_L4 fu k35 n x1 x2 s4) s4 4 [(0, rv B 328), (1, iv x1), (2, iv x2)] [] := by
  intro n
  induction n with
  | zero => intro _ _ _; exact s_none
  | succ n ih =>
    intro x1 x2 s1
    rw [fX7_outMany_L4]
    refine s_iload_n 2 dX7_outMany_4 rfl rfl ?_
    refine s_aload_n 0 dX7_outMany_5 rfl rfl ?_
    refine s_geti dX7_outMany_6 ly7 fl_X7_129 kd_328 rfl ?_
    refine s_icmp_ge (tgt := 35) dX7_outMany_9 (by decide) ?_ ?_
    · exact s_sub [1] rfl (hk35 x1 s1)
    · refine s_iload_n 1 dX7_outMany_12 rfl rfl ?_
      refine s_aload_n 0 dX7_outMany_13 rfl rfl ?_
      refine s_getr (n := 8) (k' := 337) dX7_outMany_14 ly7 fl_X7_35 kd_328 rfl rfl rfl ?_
      refine s_iload_n 2 dX7_outMany_17 rfl rfl ?_
      refine s_zald 12 dX7_outMany_18 kd_337 (by decide) (fun x4 => ?_)
      refine s_jn (fun (j1 : Int → Mem → PR) => ∀ (x5 : Int) (s3 : Mem), SX7_outMany B X (j1 x5 s3) s3 27 [(0, rv B 328), (2, iv x2)] [iv x5, iv x1]) ?_ (fun j1 hj1 => ?_)
      · intro x5 s2
        refine s_iadd dX7_outMany_27 ?_
        refine s_lti (fun x6 => ?_)
        refine s_istore_n (lv' := [(1, iv x6), (0, rv B 328), (2, iv x2)]) dX7_outMany_28 rfl (by decide) rfl ?_
        refine s_iinc (lv' := [(2, iv (x2 + 1)), (1, iv x6), (0, rv B 328)]) 2 dX7_outMany_29 rfl (by decide) rfl ?_
        refine s_goto (tgt := 4) dX7_outMany_32 (by decide) ?_
        exact s_sub [2, 1, 0] rfl (ih x6 (x2 + 1) s2)
      · refine s_if_eq (tgt := 26) dX7_outMany_19 (by decide) ?_ ?_
        · refine s_iconst dX7_outMany_26 ?_
          exact s_sub [0, 2] rfl (hj1 0 s1)
        · refine s_iconst dX7_outMany_22 ?_
          refine s_goto (tgt := 27) dX7_outMany_23 (by decide) ?_
          exact s_sub [0, 2] rfl (hj1 1 s1)
set_option maxHeartbeats 4000000 in
set_option maxRecDepth 100000 in
theorem ctX7_outMany (B fu : Nat) (σ : Mem) : CtI yX7_outMany cX7_outMany 3 (some .int) rmX7_outMany B [rv B 328] σ (fX7_outMany fu σ) := by
  refine ctI_intro (own := RX7) (lv := [(0, rv B 328)]) (by decide +kernel) rfl (Nat.le_of_ble_eq_true rfl) rfl (fun X hX => ?_)
  unfold fX7_outMany
  refine s_iconst dX7_outMany_0 ?_
  refine s_istore_n (lv' := [(1, iv 0), (0, rv B 328)]) dX7_outMany_1 rfl (by decide) rfl ?_
  refine s_iconst dX7_outMany_2 ?_
  refine s_istore_n (lv' := [(2, iv 0), (1, iv 0), (0, rv B 328)]) dX7_outMany_3 rfl (by decide) rfl ?_
  refine s_sub [2, 1, 0] (lv' := [(0, rv B 328), (1, iv 0), (2, iv 0)]) rfl ?_
  refine fX7_outMany_L4_s hX _ ?_ fu 0 0 σ
  intro x7 s6
  refine s_iload_n 0 dX7_outMany_35 rfl rfl ?_
  exact s_iret hX dX7_outMany_36
abbrev rmX7_out : Room := { frames := 2, cells := 0, slots := 0, locals := 46 }
abbrev SX7_out (B : Nat) (X : Ctx) := Sim cX7_out RX7 3 rmX7_out B X
set_option maxHeartbeats 4000000 in
set_option maxRecDepth 100000 in
theorem ctX7_out (B fu : Nat) (a0 : Int) (a1 : Int) (σ : Mem) : CtI yX7_out cX7_out 3 (some .int) rmX7_out B [rv B 328, iv a0, iv a1] σ (fX7_out fu a0 a1 σ) := by
  refine ctI_intro (own := RX7) (lv := [(0, rv B 328), (1, iv a0), (2, iv a1)]) (by decide +kernel) rfl (Nat.le_of_ble_eq_true rfl) rfl (fun X hX => ?_)
  unfold fX7_out
  refine s_aload_n 0 dX7_out_0 rfl rfl ?_
  refine s_iconst dX7_out_1 ?_
  refine s_puti dX7_out_2 ly7 ty7 fl_X7_116 kd_328 rfl po7_20 ⟨rfl, rfl, by decide⟩ (fun s1 => ?_)
  refine s_aload_n 0 dX7_out_5 rfl rfl ?_
  refine s_iload_n 1 dX7_out_6 rfl rfl ?_
  refine s_Vi (rest := []) dX7_out_7 lk_X7_134 meX7_isLine (ctX7_isLine B fu a0 s1) kd_328 ⟨rfl, by decide⟩ rfl rfl ⟨rfl, rfl, by decide, by decide⟩ (Nat.le_of_ble_eq_true rfl) (fun x1 s2 => ?_)
  refine s_if_ne (tgt := 15) dX7_out_10 (by decide) ?_ ?_
  · refine s_aload_n 0 dX7_out_15 rfl rfl ?_
    refine s_getr (n := 8) (k' := 337) dX7_out_16 ly7 fl_X7_35 kd_328 rfl rfl rfl ?_
    refine s_iload_n 1 dX7_out_19 rfl rfl ?_
    refine s_zald 12 dX7_out_20 kd_337 (by decide) (fun x2 => ?_)
    refine s_iload_n 2 dX7_out_21 rfl rfl ?_
    refine s_icmp_ne (tgt := 28) dX7_out_22 (by decide) ?_ ?_
    · refine s_aload_n 0 dX7_out_28 rfl rfl ?_
      refine s_getr (n := 8) (k' := 337) dX7_out_29 ly7 fl_X7_35 kd_328 rfl rfl rfl ?_
      refine s_iload_n 1 dX7_out_32 rfl rfl ?_
      refine s_iload_n 2 dX7_out_33 rfl rfl ?_
      refine s_zast 12 dX7_out_34 kd_337 (by decide) (fun s3 => ?_)
      refine s_aload_n 0 dX7_out_35 rfl rfl ?_
      refine s_Vi (rest := []) dX7_out_36 lk_X7_202 meX7_outMany (ctX7_outMany B fu s3) kd_328 ⟨rfl, by decide⟩ rfl rfl ⟨rfl, rfl, by decide, by decide⟩ (Nat.le_of_ble_eq_true rfl) (fun x3 s4 => ?_)
      exact s_iret hX dX7_out_39
    · refine s_bipush dX7_out_25 (by decide) ?_
      exact s_iret hX dX7_out_27
  · refine s_iconst dX7_out_13 ?_
    exact s_iret hX dX7_out_14
abbrev rmX7_closes : Room := { frames := 2, cells := 0, slots := 0, locals := 45 }
abbrev SX7_closes (B : Nat) (X : Ctx) := Sim cX7_closes RX7 5 rmX7_closes B X
set_option maxHeartbeats 4000000 in
set_option maxRecDepth 100000 in
theorem fX7_closes_L39_s {B fu : Nat} {X : Ctx} (hX : CxI .int B X) (k70 : Int → Mem → PR) (hk70 : ∀ (x5 : Int) (s8 : Mem), SX7_closes B X (k70 x5 s8) s8 70 [(3, iv x5)] []) : ∀ (n : Nat) (x3 : Int) (x4 : Int) (s7 : Mem), SX7_closes B X (fX7_closes_L39 fu k70 n x3 x4 s7) s7 39 [(0, rv B 328), (3, iv x3), (4, iv x4)] [] := by
  intro n
  induction n with
  | zero => intro _ _ _; exact s_none
  | succ n ih =>
    intro x3 x4 s4
    rw [fX7_closes_L39]
    refine s_iload 2 dX7_closes_39 rfl ?_
    refine s_bipush dX7_closes_41 (by decide) ?_
    refine s_icmp_ge (tgt := 70) dX7_closes_43 (by decide) ?_ ?_
    · exact s_sub [1] rfl (hk70 x3 s4)
    · refine s_iload_n 1 dX7_closes_46 rfl rfl ?_
      refine s_aload_n 0 dX7_closes_47 rfl rfl ?_
      refine s_getr (n := 10) (k' := 339) dX7_closes_48 ly7 fl_X7_46 kd_328 rfl rfl rfl ?_
      refine s_iload 2 dX7_closes_51 rfl ?_
      refine s_zald 10 dX7_closes_53 kd_339 (by decide) (fun x6 => ?_)
      refine s_jn (fun (j1 : Int → Mem → PR) => ∀ (x7 : Int) (s6 : Mem), SX7_closes B X (j1 x7 s6) s6 62 [(0, rv B 328), (4, iv x4)] [iv x7, iv x3]) ?_ (fun j1 hj1 => ?_)
      · intro x7 s5
        refine s_iadd dX7_closes_62 ?_
        refine s_lti (fun x8 => ?_)
        refine s_istore_n (lv' := [(3, iv x8), (0, rv B 328), (4, iv x4)]) dX7_closes_63 rfl (by decide) rfl ?_
        refine s_iinc (lv' := [(4, iv (x4 + 1)), (3, iv x8), (0, rv B 328)]) 2 dX7_closes_64 rfl (by decide) rfl ?_
        refine s_goto (tgt := 39) dX7_closes_67 (by decide) ?_
        exact s_sub [2, 1, 0] rfl (ih x8 (x4 + 1) s5)
      · refine s_if_eq (tgt := 61) dX7_closes_54 (by decide) ?_ ?_
        · refine s_iconst dX7_closes_61 ?_
          exact s_sub [0, 2] rfl (hj1 0 s4)
        · refine s_iconst dX7_closes_57 ?_
          refine s_goto (tgt := 62) dX7_closes_58 (by decide) ?_
          exact s_sub [0, 2] rfl (hj1 1 s4)
set_option maxHeartbeats 4000000 in
set_option maxRecDepth 100000 in
theorem ctX7_closes (B fu : Nat) (a0 : Int) (a1 : Int) (σ : Mem) : CtI yX7_closes cX7_closes 5 (some .int) rmX7_closes B [rv B 328, iv a0, iv a1] σ (fX7_closes fu a0 a1 σ) := by
  refine ctI_intro (own := RX7) (lv := [(0, rv B 328), (1, iv a0), (2, iv a1)]) (by decide +kernel) rfl (Nat.le_of_ble_eq_true rfl) rfl (fun X hX => ?_)
  unfold fX7_closes
  refine s_aload_n 0 dX7_closes_0 rfl rfl ?_
  refine s_iconst dX7_closes_1 ?_
  refine s_puti dX7_closes_2 ly7 ty7 fl_X7_116 kd_328 rfl po7_20 ⟨rfl, rfl, by decide⟩ (fun s1 => ?_)
  refine s_iload_n 1 dX7_closes_5 rfl rfl ?_
  refine s_Si (rest := []) dX7_closes_6 lk_X7_162 meX7_isStop (ctX7_isStop B fu a0 s1) rfl rfl ⟨rfl, rfl, by decide, by decide⟩ (Nat.le_of_ble_eq_true rfl) (fun x1 s2 => ?_)
  refine s_if_ne (tgt := 14) dX7_closes_9 (by decide) ?_ ?_
  · refine s_aload_n 0 dX7_closes_14 rfl rfl ?_
    refine s_getr (n := 10) (k' := 339) dX7_closes_15 ly7 fl_X7_46 kd_328 rfl rfl rfl ?_
    refine s_iload_n 1 dX7_closes_18 rfl rfl ?_
    refine s_zald 10 dX7_closes_19 kd_339 (by decide) (fun x2 => ?_)
    refine s_iload_n 2 dX7_closes_20 rfl rfl ?_
    refine s_icmp_ne (tgt := 27) dX7_closes_21 (by decide) ?_ ?_
    · refine s_aload_n 0 dX7_closes_27 rfl rfl ?_
      refine s_getr (n := 10) (k' := 339) dX7_closes_28 ly7 fl_X7_46 kd_328 rfl rfl rfl ?_
      refine s_iload_n 1 dX7_closes_31 rfl rfl ?_
      refine s_iload_n 2 dX7_closes_32 rfl rfl ?_
      refine s_zast 10 dX7_closes_33 kd_339 (by decide) (fun s3 => ?_)
      refine s_iconst dX7_closes_34 ?_
      refine s_istore_n (lv' := [(3, iv 0), (0, rv B 328), (1, iv a0), (2, iv a1)]) dX7_closes_35 rfl (by decide) rfl ?_
      refine s_iconst dX7_closes_36 ?_
      refine s_istore (lv' := [(4, iv 0), (3, iv 0), (0, rv B 328), (1, iv a0), (2, iv a1)]) dX7_closes_37 (by decide) rfl ?_
      refine s_sub [2, 1, 0] (lv' := [(0, rv B 328), (3, iv 0), (4, iv 0)]) rfl ?_
      refine fX7_closes_L39_s hX _ ?_ fu 0 0 s3
      intro x9 s9
      refine s_iload_n 0 dX7_closes_70 rfl rfl ?_
      exact s_iret hX dX7_closes_71
    · refine s_bipush dX7_closes_24 (by decide) ?_
      exact s_iret hX dX7_closes_26
  · refine s_iconst dX7_closes_12 ?_
    exact s_iret hX dX7_closes_13
abbrev rmX7_often : Room := { frames := 2, cells := 0, slots := 0, locals := 46 }
abbrev SX7_often (B : Nat) (X : Ctx) := Sim cX7_often RX7 4 rmX7_often B X
set_option maxHeartbeats 4000000 in
set_option maxRecDepth 100000 in
theorem ctX7_often (B fu : Nat) (a0 : Int) (a1 : Int) (σ : Mem) : CtI yX7_often cX7_often 4 (some .int) rmX7_often B [rv B 328, iv a0, iv a1] σ (fX7_often fu a0 a1 σ) := by
  refine ctI_intro (own := RX7) (lv := [(0, rv B 328), (1, iv a0), (2, iv a1)]) (by decide +kernel) rfl (Nat.le_of_ble_eq_true rfl) rfl (fun X hX => ?_)
  unfold fX7_often
  refine s_aload_n 0 dX7_often_0 rfl rfl ?_
  refine s_iconst dX7_often_1 ?_
  refine s_puti dX7_often_2 ly7 ty7 fl_X7_116 kd_328 rfl po7_20 ⟨rfl, rfl, by decide⟩ (fun s1 => ?_)
  refine s_aload_n 0 dX7_often_5 rfl rfl ?_
  refine s_iload_n 1 dX7_often_6 rfl rfl ?_
  refine s_Vi (rest := []) dX7_often_7 lk_X7_134 meX7_isLine (ctX7_isLine B fu a0 s1) kd_328 ⟨rfl, by decide⟩ rfl rfl ⟨rfl, rfl, by decide, by decide⟩ (Nat.le_of_ble_eq_true rfl) (fun x1 s2 => ?_)
  refine s_jn (fun (j1 : Mem → PR) => ∀ (s6 : Mem), SX7_often B X (j1 s6) s6 25 [] []) ?_ (fun j1 hj1 => ?_)
  · intro s3
    refine s_iconst dX7_often_25 ?_
    exact s_iret hX dX7_often_26
  · refine s_if_eq (tgt := 25) dX7_often_10 (by decide) ?_ ?_
    · exact s_sub [] rfl (hj1 s2)
    · refine s_iload_n 2 dX7_often_13 rfl rfl ?_
      refine s_i2l dX7_often_14 ?_
      refine s_lconst (x := 1) dX7_often_15 (by decide) ?_
      refine s_ldc2 (x := 60) dX7_often_16 cl_X7_205 (by decide) ?_
      refine s_Si (rest := []) dX7_often_19 lk_X7_125 meX7_in (ctX7_in B fu (w32 a1) 1 60 s2) rfl rfl ⟨rfl, rfl, by decide, by decide⟩ (Nat.le_of_ble_eq_true rfl) (fun x2 s4 => ?_)
      refine s_if_ne (tgt := 27) dX7_often_22 (by decide) ?_ ?_
      · refine s_aload_n 0 dX7_often_27 rfl rfl ?_
        refine s_getr (n := 0) (k' := 329) dX7_often_28 ly7 fl_X7_9 kd_328 rfl rfl rfl ?_
        refine s_iload_n 1 dX7_often_31 rfl rfl ?_
        refine s_iald 12 dX7_often_32 kd_329 (by decide) (fun x3 => ?_)
        refine s_istore_n (lv' := [(3, iv x3), (0, rv B 328), (1, iv a0), (2, iv a1)]) dX7_often_33 rfl (by decide) rfl ?_
        refine s_aload_n 1 dX7_often_34 rfl rfl ?_
        refine s_getr (n := 0) (k' := 329) dX7_often_35 ly7 fl_X7_9 kd_328 rfl rfl rfl ?_
        refine s_iload_n 2 dX7_often_38 rfl rfl ?_
        refine s_iload_n 3 dX7_often_39 rfl rfl ?_
        refine s_iast 12 dX7_often_40 kd_329 (by decide) (fun s5 => ?_)
        refine s_iload_n 0 dX7_often_41 rfl rfl ?_
        exact s_iret hX dX7_often_42
      · exact s_sub [] rfl (hj1 s4)
abbrev rmX7_line : Room := { frames := 2, cells := 0, slots := 0, locals := 46 }
abbrev SX7_line (B : Nat) (X : Ctx) := Sim cX7_line RX7 3 rmX7_line B X
set_option maxHeartbeats 4000000 in
set_option maxRecDepth 100000 in
theorem ctX7_line (B fu : Nat) (a0 : Int) (a1 : Int) (σ : Mem) : CtI yX7_line cX7_line 3 (some .int) rmX7_line B [rv B 328, iv a0, iv a1] σ (fX7_line fu a0 a1 σ) := by
  refine ctI_intro (own := RX7) (lv := [(0, rv B 328), (1, iv a0), (2, iv a1)]) (by decide +kernel) rfl (Nat.le_of_ble_eq_true rfl) rfl (fun X hX => ?_)
  unfold fX7_line
  refine s_aload_n 0 dX7_line_0 rfl rfl ?_
  refine s_iconst dX7_line_1 ?_
  refine s_puti dX7_line_2 ly7 ty7 fl_X7_116 kd_328 rfl po7_20 ⟨rfl, rfl, by decide⟩ (fun s1 => ?_)
  refine s_aload_n 0 dX7_line_5 rfl rfl ?_
  refine s_iload_n 1 dX7_line_6 rfl rfl ?_
  refine s_Vi (rest := []) dX7_line_7 lk_X7_134 meX7_isLine (ctX7_isLine B fu a0 s1) kd_328 ⟨rfl, by decide⟩ rfl rfl ⟨rfl, rfl, by decide, by decide⟩ (Nat.le_of_ble_eq_true rfl) (fun x1 s2 => ?_)
  refine s_if_ne (tgt := 15) dX7_line_10 (by decide) ?_ ?_
  · refine s_iload_n 2 dX7_line_15 rfl rfl ?_
    refine s_ite1 (fun hd0 => ?_) ?_
    · refine s_tabO (tgt := 95) dX7_line_16 hd0 (by decide) ?_
      refine s_iconst dX7_line_95 ?_
      exact s_iret hX dX7_line_96
    · refine s_ite1 (fun h0 => ?_) ?_
      · refine s_tabI (tgt := 52) dX7_line_16 0 h0 (by decide) (by decide) rfl (by decide) ?_
        refine s_aload_n 0 dX7_line_52 rfl rfl ?_
        refine s_getr (n := 0) (k' := 329) dX7_line_53 ly7 fl_X7_9 kd_328 rfl rfl rfl ?_
        refine s_iload_n 1 dX7_line_56 rfl rfl ?_
        refine s_iald 12 dX7_line_57 kd_329 (by decide) (fun x2 => ?_)
        exact s_iret hX dX7_line_58
      · refine s_ite1 (fun h1 => ?_) ?_
        · refine s_tabI (tgt := 59) dX7_line_16 1 h1 (by decide) (by decide) rfl (by decide) ?_
          refine s_aload_n 0 dX7_line_59 rfl rfl ?_
          refine s_getr (n := 1) (k' := 330) dX7_line_60 ly7 fl_X7_13 kd_328 rfl rfl rfl ?_
          refine s_iload_n 1 dX7_line_63 rfl rfl ?_
          refine s_iald 12 dX7_line_64 kd_330 (by decide) (fun x3 => ?_)
          exact s_iret hX dX7_line_65
        · refine s_ite1 (fun h2 => ?_) ?_
          · refine s_tabI (tgt := 66) dX7_line_16 2 h2 (by decide) (by decide) rfl (by decide) ?_
            refine s_aload_n 0 dX7_line_66 rfl rfl ?_
            refine s_getr (n := 6) (k' := 335) dX7_line_67 ly7 fl_X7_29 kd_328 rfl rfl rfl ?_
            refine s_iload_n 1 dX7_line_70 rfl rfl ?_
            refine s_iald 12 dX7_line_71 kd_335 (by decide) (fun x4 => ?_)
            exact s_iret hX dX7_line_72
          · refine s_ite1 (fun h3 => ?_) ?_
            · refine s_tabI (tgt := 73) dX7_line_16 3 h3 (by decide) (by decide) rfl (by decide) ?_
              refine s_aload_n 0 dX7_line_73 rfl rfl ?_
              refine s_getr (n := 7) (k' := 336) dX7_line_74 ly7 fl_X7_32 kd_328 rfl rfl rfl ?_
              refine s_iload_n 1 dX7_line_77 rfl rfl ?_
              refine s_iald 12 dX7_line_78 kd_336 (by decide) (fun x5 => ?_)
              exact s_iret hX dX7_line_79
            · refine s_ite1 (fun h4 => ?_) ?_
              · refine s_tabI (tgt := 80) dX7_line_16 4 h4 (by decide) (by decide) rfl (by decide) ?_
                refine s_aload_n 0 dX7_line_80 rfl rfl ?_
                refine s_getr (n := 8) (k' := 337) dX7_line_81 ly7 fl_X7_35 kd_328 rfl rfl rfl ?_
                refine s_iload_n 1 dX7_line_84 rfl rfl ?_
                refine s_zald 12 dX7_line_85 kd_337 (by decide) (fun x6 => ?_)
                refine s_jn (fun (j1 : Int → Mem → PR) => ∀ (x7 : Int) (s4 : Mem), SX7_line B X (j1 x7 s4) s4 94 [] [iv x7]) ?_ (fun j1 hj1 => ?_)
                · intro x7 s3
                  exact s_iret hX dX7_line_94
                · refine s_if_eq (tgt := 93) dX7_line_86 (by decide) ?_ ?_
                  · refine s_iconst dX7_line_93 ?_
                    exact s_sub [] rfl (hj1 0 s2)
                  · refine s_iconst dX7_line_89 ?_
                    refine s_goto (tgt := 94) dX7_line_90 (by decide) ?_
                    exact s_sub [] rfl (hj1 1 s2)
              · exact s_none
  · refine s_iconst dX7_line_13 ?_
    exact s_iret hX dX7_line_14
abbrev rmX7_stop : Room := { frames := 3, cells := 0, slots := 0, locals := 68 }
abbrev SX7_stop (B : Nat) (X : Ctx) := Sim cX7_stop RX7 3 rmX7_stop B X
set_option maxHeartbeats 4000000 in
set_option maxRecDepth 100000 in
theorem ctX7_stop (B fu : Nat) (a0 : Int) (a1 : Int) (σ : Mem) : CtI yX7_stop cX7_stop 3 (some .int) rmX7_stop B [rv B 328, iv a0, iv a1] σ (fX7_stop fu a0 a1 σ) := by
  refine ctI_intro (own := RX7) (lv := [(0, rv B 328), (1, iv a0), (2, iv a1)]) (by decide +kernel) rfl (Nat.le_of_ble_eq_true rfl) rfl (fun X hX => ?_)
  unfold fX7_stop
  refine s_aload_n 0 dX7_stop_0 rfl rfl ?_
  refine s_iconst dX7_stop_1 ?_
  refine s_puti dX7_stop_2 ly7 ty7 fl_X7_116 kd_328 rfl po7_20 ⟨rfl, rfl, by decide⟩ (fun s1 => ?_)
  refine s_aload_n 0 dX7_stop_5 rfl rfl ?_
  refine s_iload_n 1 dX7_stop_6 rfl rfl ?_
  refine s_iload_n 2 dX7_stop_7 rfl rfl ?_
  refine s_Vi (rest := []) dX7_stop_8 lk_X7_207 meX7_isHalt (ctX7_isHalt B fu a0 a1 s1) kd_328 ⟨rfl, by decide⟩ rfl rfl ⟨rfl, rfl, by decide, by decide⟩ (Nat.le_of_ble_eq_true rfl) (fun x1 s2 => ?_)
  refine s_if_ne (tgt := 16) dX7_stop_11 (by decide) ?_ ?_
  · refine s_aload_n 0 dX7_stop_16 rfl rfl ?_
    refine s_iconst dX7_stop_17 ?_
    refine s_puti dX7_stop_18 ly7 ty7 fl_X7_119 kd_328 rfl po7_19 ⟨rfl, rfl, by decide⟩ (fun s3 => ?_)
    refine s_iload_n 2 dX7_stop_21 rfl rfl ?_
    refine s_aload_n 0 dX7_stop_22 rfl rfl ?_
    refine s_getr (n := 1) (k' := 330) dX7_stop_23 ly7 fl_X7_13 kd_328 rfl rfl rfl ?_
    refine s_iload_n 1 dX7_stop_26 rfl rfl ?_
    refine s_iald 12 dX7_stop_27 kd_330 (by decide) (fun x2 => ?_)
    refine s_iconst dX7_stop_28 ?_
    refine s_isub dX7_stop_29 ?_
    refine s_jn (fun (j1 : Mem → PR) => ∀ (s10 : Mem), SX7_stop B X (j1 s10) s10 62 [(0, rv B 328), (1, iv a0), (2, iv a1)] []) ?_ (fun j1 hj1 => ?_)
    · intro s4
      refine s_aload_n 0 dX7_stop_62 rfl rfl ?_
      refine s_getr (n := 2) (k' := 331) dX7_stop_63 ly7 fl_X7_16 kd_328 rfl rfl rfl ?_
      refine s_iload_n 1 dX7_stop_66 rfl rfl ?_
      refine s_iload_n 2 dX7_stop_67 rfl rfl ?_
      refine s_Si (rest := [rv B 331]) dX7_stop_68 lk_X7_165 meX7_at (ctX7_at B fu a0 a1 s4) rfl rfl ⟨rfl, rfl, by decide, by decide⟩ (Nat.le_of_ble_eq_true rfl) (fun x3 s5 => ?_)
      refine s_iald 96 dX7_stop_71 kd_331 (by decide) (fun x4 => ?_)
      exact s_iret hX dX7_stop_72
    · refine s_icmp_ge (tgt := 62) dX7_stop_30 (by decide) ?_ ?_
      · exact hj1 s3
      · refine s_aload_n 0 dX7_stop_33 rfl rfl ?_
        refine s_aload_n 0 dX7_stop_34 rfl rfl ?_
        refine s_getr (n := 3) (k' := 332) dX7_stop_35 ly7 fl_X7_19 kd_328 rfl rfl rfl ?_
        refine s_iload_n 1 dX7_stop_38 rfl rfl ?_
        refine s_iload_n 2 dX7_stop_39 rfl rfl ?_
        refine s_Si (rest := [rv B 332, rv B 328]) dX7_stop_40 lk_X7_165 meX7_at (ctX7_at B fu a0 a1 s3) rfl rfl ⟨rfl, rfl, by decide, by decide⟩ (Nat.le_of_ble_eq_true rfl) (fun x5 s6 => ?_)
        refine s_iald 96 dX7_stop_43 kd_332 (by decide) (fun x6 => ?_)
        refine s_i2l dX7_stop_44 ?_
        refine s_Vv (rest := []) dX7_stop_45 lk_X7_211 meX7_tell (ctX7_tell B fu (w32 x6) s6) kd_328 ⟨rfl, by decide⟩ rfl rfl ⟨rfl, rfl, by decide, by decide⟩ (Nat.le_of_ble_eq_true rfl) (fun _ s7 => ?_)
        refine s_aload_n 0 dX7_stop_48 rfl rfl ?_
        refine s_aload_n 0 dX7_stop_49 rfl rfl ?_
        refine s_getr (n := 4) (k' := 333) dX7_stop_50 ly7 fl_X7_22 kd_328 rfl rfl rfl ?_
        refine s_iload_n 1 dX7_stop_53 rfl rfl ?_
        refine s_iload_n 2 dX7_stop_54 rfl rfl ?_
        refine s_Si (rest := [rv B 333, rv B 328]) dX7_stop_55 lk_X7_165 meX7_at (ctX7_at B fu a0 a1 s7) rfl rfl ⟨rfl, rfl, by decide, by decide⟩ (Nat.le_of_ble_eq_true rfl) (fun x7 s8 => ?_)
        refine s_lald 96 dX7_stop_58 kd_333 (by decide) (fun x8 => ?_)
        refine s_Vv (rest := []) dX7_stop_59 lk_X7_211 meX7_tell (ctX7_tell B fu x8 s8) kd_328 ⟨rfl, by decide⟩ rfl rfl ⟨rfl, rfl, by decide, by decide⟩ (Nat.le_of_ble_eq_true rfl) (fun _ s9 => ?_)
        exact hj1 s9
  · refine s_iconst dX7_stop_14 ?_
    exact s_iret hX dX7_stop_15
abbrev rmX7_time : Room := { frames := 1, cells := 0, slots := 0, locals := 21 }
abbrev SX7_time (B : Nat) (X : Ctx) := Sim cX7_time RX7 3 rmX7_time B X
set_option maxHeartbeats 4000000 in
set_option maxRecDepth 100000 in
theorem ctX7_time (B fu : Nat) (a0 : Int) (a1 : Int) (σ : Mem) : CtL yX7_time cX7_time 3 (some .long) rmX7_time B [rv B 328, iv a0, iv a1] σ (fX7_time fu a0 a1 σ) := by
  refine ctL_intro (own := RX7) (lv := [(0, rv B 328), (1, iv a0), (2, iv a1)]) (by decide +kernel) rfl (Nat.le_of_ble_eq_true rfl) rfl (fun X hX => ?_)
  unfold fX7_time
  refine s_ldc2 (x := 100) dX7_time_0 cl_X7_195 (by decide) ?_
  refine s_aload_n 0 dX7_time_3 rfl rfl ?_
  refine s_getr (n := 3) (k' := 332) dX7_time_4 ly7 fl_X7_19 kd_328 rfl rfl rfl ?_
  refine s_iload_n 1 dX7_time_7 rfl rfl ?_
  refine s_iload_n 2 dX7_time_8 rfl rfl ?_
  refine s_Si (rest := [rv B 332, jv 100]) dX7_time_9 lk_X7_165 meX7_at (ctX7_at B fu a0 a1 σ) rfl rfl ⟨rfl, rfl, by decide, by decide⟩ (Nat.le_of_ble_eq_true rfl) (fun x1 s1 => ?_)
  refine s_iald 96 dX7_time_12 kd_332 (by decide) (fun x2 => ?_)
  refine s_i2l dX7_time_13 ?_
  refine s_lmul dX7_time_14 ?_
  refine s_aload_n 0 dX7_time_15 rfl rfl ?_
  refine s_getr (n := 4) (k' := 333) dX7_time_16 ly7 fl_X7_22 kd_328 rfl rfl rfl ?_
  refine s_iload_n 1 dX7_time_19 rfl rfl ?_
  refine s_iload_n 2 dX7_time_20 rfl rfl ?_
  refine s_Si (rest := [rv B 333, jv (100 * (w32 x2))]) dX7_time_21 lk_X7_165 meX7_at (ctX7_at B fu a0 a1 s1) rfl rfl ⟨rfl, rfl, by decide, by decide⟩ (Nat.le_of_ble_eq_true rfl) (fun x3 s2 => ?_)
  refine s_lald 96 dX7_time_24 kd_333 (by decide) (fun x4 => ?_)
  refine s_ladd dX7_time_25 ?_
  exact s_lret hX dX7_time_26
abbrev rmX7_boardingAt : Room := { frames := 2, cells := 0, slots := 0, locals := 43 }
abbrev SX7_boardingAt (B : Nat) (X : Ctx) := Sim cX7_boardingAt RX7 5 rmX7_boardingAt B X
set_option maxHeartbeats 4000000 in
set_option maxRecDepth 100000 in
theorem ctX7_boardingAt (B fu : Nat) (a0 : Int) (a1 : Int) (σ : Mem) : CtL yX7_boardingAt cX7_boardingAt 5 (some .long) rmX7_boardingAt B [rv B 328, iv a0, iv a1] σ (fX7_boardingAt fu a0 a1 σ) := by
  refine ctL_intro (own := RX7) (lv := [(0, rv B 328), (1, iv a0), (2, iv a1)]) (by decide +kernel) rfl (Nat.le_of_ble_eq_true rfl) rfl (fun X hX => ?_)
  unfold fX7_boardingAt
  refine s_aload_n 0 dX7_boardingAt_0 rfl rfl ?_
  refine s_getr (n := 19) (k' := 348) dX7_boardingAt_1 ly7 fl_X7_74 kd_328 rfl rfl rfl ?_
  refine s_iload_n 1 dX7_boardingAt_4 rfl rfl ?_
  refine s_iload_n 2 dX7_boardingAt_5 rfl rfl ?_
  refine s_iconst dX7_boardingAt_6 ?_
  refine s_iadd dX7_boardingAt_7 ?_
  refine s_Si (rest := [rv B 348]) dX7_boardingAt_8 lk_X7_165 meX7_at (ctX7_at B fu a0 (a1 + 1) σ) rfl rfl ⟨rfl, rfl, by decide, by decide⟩ (Nat.le_of_ble_eq_true rfl) (fun x1 s1 => ?_)
  refine s_lald 96 dX7_boardingAt_11 kd_348 (by decide) (fun x2 => ?_)
  refine s_lstore_n (lv' := [(3, jv x2), (0, rv B 328), (1, iv a0), (2, iv a1)]) dX7_boardingAt_12 rfl (by decide) rfl ?_
  refine s_lload_n 0 dX7_boardingAt_13 rfl rfl ?_
  refine s_lconst (x := 0) dX7_boardingAt_14 (by decide) ?_
  refine s_jn (fun (j1 : Int → Mem → PR) => ∀ (x3 : Int) (s4 : Mem), SX7_boardingAt B X (j1 x3 s4) s4 33 [] [jv x3]) ?_ (fun j1 hj1 => ?_)
  · intro x3 s2
    exact s_lret hX dX7_boardingAt_33
  · refine s_lif_ge (tgt := 25) dX7_boardingAt_15 dX7_boardingAt_16 (by decide) ?_ ?_
    · refine s_aload_n 1 dX7_boardingAt_25 rfl rfl ?_
      refine s_iload_n 2 dX7_boardingAt_26 rfl rfl ?_
      refine s_iload_n 3 dX7_boardingAt_27 rfl rfl ?_
      refine s_Vl (rest := []) dX7_boardingAt_28 lk_X7_217 meX7_time (ctX7_time B fu a0 a1 s1) kd_328 ⟨rfl, by decide⟩ rfl rfl ⟨rfl, rfl, by decide, by decide⟩ (Nat.le_of_ble_eq_true rfl) (fun x4 s3 => ?_)
      refine s_lload_n 0 dX7_boardingAt_31 rfl rfl ?_
      refine s_ladd dX7_boardingAt_32 ?_
      exact s_sub [] rfl (hj1 (x4 + x2) s3)
    · refine s_ldc2 (x := -1) dX7_boardingAt_19 cl_X7_215 (by decide) ?_
      refine s_goto (tgt := 33) dX7_boardingAt_22 (by decide) ?_
      exact s_sub [] rfl (hj1 (-1) s1)
abbrev rmX7_laysAboard : Room := { frames := 3, cells := 0, slots := 0, locals := 67 }
abbrev SX7_laysAboard (B : Nat) (X : Ctx) := Sim cX7_laysAboard RX7 8 rmX7_laysAboard B X
set_option maxHeartbeats 4000000 in
set_option maxRecDepth 100000 in
theorem fX7_laysAboard_L19_s {B fu : Nat} {X : Ctx} (hX : CxV B X) (c1 : Int) (k168 : Mem → PR) (hk168 : ∀ (s26 : Mem), SX7_laysAboard B X (k168 s26) s26 168 [(0, rv B 328), (1, iv c1)] []) : ∀ (n : Nat) (x4 : Int) (s25 : Mem), SX7_laysAboard B X (fX7_laysAboard_L19 fu c1 k168 n x4 s25) s25 19 [(0, rv B 328), (1, iv c1), (2, iv x4)] [] := by
  intro n
  induction n with
  | zero => intro _ _; exact s_none
  | succ n ih =>
    intro x4 s2
    rw [fX7_laysAboard_L19]
    refine s_iload_n 2 dX7_laysAboard_19 rfl rfl ?_
    refine s_if_lt (tgt := 168) dX7_laysAboard_20 (by decide) ?_ ?_
    · exact s_sub [0, 1] rfl (hk168 s2)
    · refine s_aload_n 0 dX7_laysAboard_23 rfl rfl ?_
      refine s_getr (n := 2) (k' := 331) dX7_laysAboard_24 ly7 fl_X7_16 kd_328 rfl rfl rfl ?_
      refine s_iload_n 1 dX7_laysAboard_27 rfl rfl ?_
      refine s_iload_n 2 dX7_laysAboard_28 rfl rfl ?_
      refine s_Si (rest := [rv B 331]) dX7_laysAboard_29 lk_X7_165 meX7_at (ctX7_at B fu c1 x4 s2) rfl rfl ⟨rfl, rfl, by decide, by decide⟩ (Nat.le_of_ble_eq_true rfl) (fun x5 s3 => ?_)
      refine s_iald 96 dX7_laysAboard_32 kd_331 (by decide) (fun x6 => ?_)
      refine s_istore_n (lv' := [(3, iv x6), (0, rv B 328), (1, iv c1), (2, iv x4)]) dX7_laysAboard_33 rfl (by decide) rfl ?_
      refine s_aload_n 1 dX7_laysAboard_34 rfl rfl ?_
      refine s_getr (n := 10) (k' := 339) dX7_laysAboard_35 ly7 fl_X7_46 kd_328 rfl rfl rfl ?_
      refine s_iload_n 0 dX7_laysAboard_38 rfl rfl ?_
      refine s_zald 10 dX7_laysAboard_39 kd_339 (by decide) (fun x7 => ?_)
      refine s_jn (fun (j1 : Int → Mem → PR) => ∀ (x8 : Int) (s24 : Mem), SX7_laysAboard B X (j1 x8 s24) s24 67 [(0, rv B 328), (1, iv c1), (2, iv x4)] [jv x8]) ?_ (fun j1 hj1 => ?_)
      · intro x8 s4
        refine s_lstore (lv' := [(4, jv x8), (0, rv B 328), (1, iv c1), (2, iv x4)]) dX7_laysAboard_67 (by decide) rfl ?_
        refine s_iload_n 3 dX7_laysAboard_69 rfl rfl ?_
        refine s_aload_n 1 dX7_laysAboard_70 rfl rfl ?_
        refine s_getr (n := 1) (k' := 330) dX7_laysAboard_71 ly7 fl_X7_13 kd_328 rfl rfl rfl ?_
        refine s_iload_n 2 dX7_laysAboard_74 rfl rfl ?_
        refine s_iald 12 dX7_laysAboard_75 kd_330 (by decide) (fun x9 => ?_)
        refine s_iconst dX7_laysAboard_76 ?_
        refine s_isub dX7_laysAboard_77 ?_
        refine s_jn (fun (j2 : Int → Mem → PR) => ∀ (x10 : Int) (s20 : Mem), SX7_laysAboard B X (j2 x10 s20) s20 93 [(0, rv B 328), (1, iv c1), (2, iv x4), (4, jv x8)] [jv x10]) ?_ (fun j2 hj2 => ?_)
        · intro x10 s5
          refine s_lstore (lv' := [(6, jv x10), (0, rv B 328), (1, iv c1), (2, iv x4), (4, jv x8)]) dX7_laysAboard_93 (by decide) rfl ?_
          refine s_aload_n 1 dX7_laysAboard_95 rfl rfl ?_
          refine s_getr (n := 20) (k' := 349) dX7_laysAboard_96 ly7 fl_X7_77 kd_328 rfl rfl rfl ?_
          refine s_iload_n 2 dX7_laysAboard_99 rfl rfl ?_
          refine s_iload_n 3 dX7_laysAboard_100 rfl rfl ?_
          refine s_Si (rest := [rv B 349]) dX7_laysAboard_101 lk_X7_165 meX7_at (ctX7_at B fu c1 x4 s5) rfl rfl ⟨rfl, rfl, by decide, by decide⟩ (Nat.le_of_ble_eq_true rfl) (fun x11 s6 => ?_)
          refine s_lload 4 dX7_laysAboard_104 rfl ?_
          refine s_lconst (x := 0) dX7_laysAboard_106 (by decide) ?_
          refine s_jn (fun (j3 : Int → Mem → PR) => ∀ (x12 : Int) (s18 : Mem), SX7_laysAboard B X (j3 x12 s18) s18 131 [(0, rv B 328), (1, iv c1), (2, iv x4), (4, jv x8), (6, jv x10)] [iv x12, iv x11, rv B 349]) ?_ (fun j3 hj3 => ?_)
          · intro x12 s7
            refine s_zast 96 dX7_laysAboard_131 kd_349 (by decide) (fun s8 => ?_)
            refine s_aload_n 0 dX7_laysAboard_132 rfl rfl ?_
            refine s_getr (n := 19) (k' := 348) dX7_laysAboard_133 ly7 fl_X7_74 kd_328 rfl rfl rfl ?_
            refine s_iload_n 1 dX7_laysAboard_136 rfl rfl ?_
            refine s_iload_n 2 dX7_laysAboard_137 rfl rfl ?_
            refine s_Si (rest := [rv B 348]) dX7_laysAboard_138 lk_X7_165 meX7_at (ctX7_at B fu c1 x4 s8) rfl rfl ⟨rfl, rfl, by decide, by decide⟩ (Nat.le_of_ble_eq_true rfl) (fun x13 s9 => ?_)
            refine s_aload_n 0 dX7_laysAboard_141 rfl rfl ?_
            refine s_getr (n := 20) (k' := 349) dX7_laysAboard_142 ly7 fl_X7_77 kd_328 rfl rfl rfl ?_
            refine s_iload_n 1 dX7_laysAboard_145 rfl rfl ?_
            refine s_iload_n 2 dX7_laysAboard_146 rfl rfl ?_
            refine s_Si (rest := [rv B 349, iv x13, rv B 348]) dX7_laysAboard_147 lk_X7_165 meX7_at (ctX7_at B fu c1 x4 s9) rfl rfl ⟨rfl, rfl, by decide, by decide⟩ (Nat.le_of_ble_eq_true rfl) (fun x14 s10 => ?_)
            refine s_zald 96 dX7_laysAboard_150 kd_349 (by decide) (fun x15 => ?_)
            refine s_jn (fun (j4 : Int → Mem → PR) => ∀ (x16 : Int) (s13 : Mem), SX7_laysAboard B X (j4 x16 s13) s13 161 [(0, rv B 328), (1, iv c1), (2, iv x4)] [jv x16, iv x13, rv B 348]) ?_ (fun j4 hj4 => ?_)
            · intro x16 s11
              refine s_last 96 dX7_laysAboard_161 kd_348 (by decide) (fun s12 => ?_)
              refine s_iinc (lv' := [(2, iv (x4 + (-1))), (0, rv B 328), (1, iv c1)]) 2 dX7_laysAboard_162 rfl (by decide) rfl ?_
              refine s_goto (tgt := 19) dX7_laysAboard_165 (by decide) ?_
              exact s_sub [1, 2, 0] rfl (ih (x4 + (-1)) s12)
            · refine s_if_eq (tgt := 159) dX7_laysAboard_151 (by decide) ?_ ?_
              · refine s_lload 4 dX7_laysAboard_159 rfl ?_
                exact s_sub [0, 1, 2] rfl (hj4 x10 s10)
              · refine s_lload 3 dX7_laysAboard_154 rfl ?_
                refine s_goto (tgt := 161) dX7_laysAboard_156 (by decide) ?_
                exact s_sub [0, 1, 2] rfl (hj4 x8 s10)
          · refine s_jn (fun (j5 : Mem → PR) => ∀ (s17 : Mem), SX7_laysAboard B X (j5 s17) s17 130 [(0, rv B 328), (1, iv c1), (2, iv x4), (4, jv x8), (6, jv x10)] [iv x11, rv B 349]) ?_ (fun j5 hj5 => ?_)
            · intro s14
              refine s_iconst dX7_laysAboard_130 ?_
              exact hj3 0 s14
            · refine s_lif_lt (tgt := 130) dX7_laysAboard_107 dX7_laysAboard_108 (by decide) ?_ ?_
              · exact s_sub [1, 2, 3, 4, 0] rfl (hj5 s6)
              · refine s_lload 0 dX7_laysAboard_111 rfl ?_
                refine s_lconst (x := 0) dX7_laysAboard_113 (by decide) ?_
                refine s_jn (fun (j6 : Mem → PR) => ∀ (s16 : Mem), SX7_laysAboard B X (j6 s16) s16 126 [(0, rv B 328), (1, iv c1), (2, iv x4), (4, jv x8), (6, jv x10)] [iv x11, rv B 349]) ?_ (fun j6 hj6 => ?_)
                · intro s15
                  refine s_iconst dX7_laysAboard_126 ?_
                  refine s_goto (tgt := 131) dX7_laysAboard_127 (by decide) ?_
                  exact hj3 1 s15
                · refine s_lif_lt (tgt := 126) dX7_laysAboard_114 dX7_laysAboard_115 (by decide) ?_ ?_
                  · exact s_sub [1, 2, 3, 4, 0] rfl (hj6 s6)
                  · refine s_lload 4 dX7_laysAboard_118 rfl ?_
                    refine s_lload 0 dX7_laysAboard_120 rfl ?_
                    refine s_lif_gt (tgt := 130) dX7_laysAboard_122 dX7_laysAboard_123 (by decide) ?_ ?_
                    · exact s_sub [1, 2, 3, 4, 0] rfl (hj5 s6)
                    · exact s_sub [1, 2, 3, 4, 0] rfl (hj6 s6)
        · refine s_icmp_ge (tgt := 90) dX7_laysAboard_78 (by decide) ?_ ?_
          · refine s_ldc2 (x := -1) dX7_laysAboard_90 cl_X7_215 (by decide) ?_
            exact s_sub [1, 2, 3, 0] rfl (hj2 (-1) s4)
          · refine s_aload_n 1 dX7_laysAboard_81 rfl rfl ?_
            refine s_iload_n 2 dX7_laysAboard_82 rfl rfl ?_
            refine s_iload_n 3 dX7_laysAboard_83 rfl rfl ?_
            refine s_Vl (rest := []) dX7_laysAboard_84 lk_X7_221 meX7_boardingAt (ctX7_boardingAt B fu c1 x4 s4) kd_328 ⟨rfl, by decide⟩ rfl rfl ⟨rfl, rfl, by decide, by decide⟩ (Nat.le_of_ble_eq_true rfl) (fun x17 s19 => ?_)
            refine s_goto (tgt := 93) dX7_laysAboard_87 (by decide) ?_
            exact s_sub [1, 2, 3, 0] rfl (hj2 x17 s19)
      · refine s_jn (fun (j7 : Mem → PR) => ∀ (s23 : Mem), SX7_laysAboard B X (j7 s23) s23 55 [(0, rv B 328), (1, iv c1), (2, iv x4)] []) ?_ (fun j7 hj7 => ?_)
        · intro s21
          refine s_ldc2 (x := -1) dX7_laysAboard_55 cl_X7_215 (by decide) ?_
          refine s_goto (tgt := 67) dX7_laysAboard_58 (by decide) ?_
          exact hj1 (-1) s21
        · refine s_if_ne (tgt := 55) dX7_laysAboard_40 (by decide) ?_ ?_
          · exact s_sub [1, 2, 3] rfl (hj7 s3)
          · refine s_iload_n 2 dX7_laysAboard_43 rfl rfl ?_
            refine s_iload_n 3 dX7_laysAboard_44 rfl rfl ?_
            refine s_Si (rest := []) dX7_laysAboard_45 lk_X7_165 meX7_at (ctX7_at B fu c1 x4 s3) rfl rfl ⟨rfl, rfl, by decide, by decide⟩ (Nat.le_of_ble_eq_true rfl) (fun x18 s22 => ?_)
            refine s_aload_n 1 dX7_laysAboard_48 rfl rfl ?_
            refine s_geti dX7_laysAboard_49 ly7 fl_X7_89 kd_328 rfl ?_
            refine s_icmp_ne (tgt := 61) dX7_laysAboard_52 (by decide) ?_ ?_
            · refine s_aload_n 1 dX7_laysAboard_61 rfl rfl ?_
              refine s_getr (n := 18) (k' := 347) dX7_laysAboard_62 ly7 fl_X7_71 kd_328 rfl rfl rfl ?_
              refine s_iload_n 0 dX7_laysAboard_65 rfl rfl ?_
              refine s_lald 10 dX7_laysAboard_66 kd_347 (by decide) (fun x19 => ?_)
              exact s_sub [1, 2, 3] rfl (hj1 x19 s22)
            · exact s_sub [1, 2, 3] rfl (hj7 s22)
set_option maxHeartbeats 4000000 in
set_option maxRecDepth 100000 in
theorem fX7_laysAboard_L2_s {B fu : Nat} {X : Ctx} (hX : CxV B X) (k174 : Mem → PR) (hk174 : ∀ (s29 : Mem), SX7_laysAboard B X (k174 s29) s29 174 [] []) : ∀ (n : Nat) (x1 : Int) (s28 : Mem), SX7_laysAboard B X (fX7_laysAboard_L2 fu k174 n x1 s28) s28 2 [(0, rv B 328), (1, iv x1)] [] := by
  intro n
  induction n with
  | zero => intro _ _; exact s_none
  | succ n ih =>
    intro x1 s1
    rw [fX7_laysAboard_L2]
    refine s_iload_n 1 dX7_laysAboard_2 rfl rfl ?_
    refine s_aload_n 0 dX7_laysAboard_3 rfl rfl ?_
    refine s_geti dX7_laysAboard_4 ly7 fl_X7_129 kd_328 rfl ?_
    refine s_icmp_ge (tgt := 174) dX7_laysAboard_7 (by decide) ?_ ?_
    · exact s_sub [] rfl (hk174 s1)
    · refine s_aload_n 0 dX7_laysAboard_10 rfl rfl ?_
      refine s_getr (n := 1) (k' := 330) dX7_laysAboard_11 ly7 fl_X7_13 kd_328 rfl rfl rfl ?_
      refine s_iload_n 1 dX7_laysAboard_14 rfl rfl ?_
      refine s_iald 12 dX7_laysAboard_15 kd_330 (by decide) (fun x2 => ?_)
      refine s_iconst dX7_laysAboard_16 ?_
      refine s_isub dX7_laysAboard_17 ?_
      refine s_lti (fun x3 => ?_)
      refine s_istore_n (lv' := [(2, iv x3), (0, rv B 328), (1, iv x1)]) dX7_laysAboard_18 rfl (by decide) rfl ?_
      refine s_sub [1, 2, 0] (lv' := [(0, rv B 328), (1, iv x1), (2, iv x3)]) rfl ?_
      refine fX7_laysAboard_L19_s hX x1 _ ?_ fu x3 s1
      intro s27
      refine s_iinc (lv' := [(1, iv (x1 + 1)), (0, rv B 328)]) 1 dX7_laysAboard_168 rfl (by decide) rfl ?_
      refine s_goto (tgt := 2) dX7_laysAboard_171 (by decide) ?_
      exact s_sub [1, 0] rfl (ih (x1 + 1) s27)
set_option maxHeartbeats 4000000 in
set_option maxRecDepth 100000 in
theorem ctX7_laysAboard (B fu : Nat) (σ : Mem) : CtV yX7_laysAboard cX7_laysAboard 8 none rmX7_laysAboard B [rv B 328] σ (fX7_laysAboard fu σ) := by
  refine ctV_intro (own := RX7) (lv := [(0, rv B 328)]) (by decide +kernel) rfl (Nat.le_of_ble_eq_true rfl) rfl (fun X hX => ?_)
  unfold fX7_laysAboard
  refine s_iconst dX7_laysAboard_0 ?_
  refine s_istore_n (lv' := [(1, iv 0), (0, rv B 328)]) dX7_laysAboard_1 rfl (by decide) rfl ?_
  refine s_sub [1, 0] (lv' := [(0, rv B 328), (1, iv 0)]) rfl ?_
  refine fX7_laysAboard_L2_s hX _ ?_ fu 0 σ
  intro s30
  exact s_vret hX dX7_laysAboard_174
abbrev rmX7_placeOf : Room := { frames := 1, cells := 0, slots := 0, locals := 21 }
abbrev SX7_placeOf (B : Nat) (X : Ctx) := Sim cX7_placeOf RX7 4 rmX7_placeOf B X
set_option maxHeartbeats 4000000 in
set_option maxRecDepth 100000 in
theorem fX7_placeOf_L2_s {B fu : Nat} {X : Ctx} (hX : CxI .int B X) (c1 : Int) (c2 : Int) (k34 : Mem → PR) (hk34 : ∀ (s4 : Mem), SX7_placeOf B X (k34 s4) s4 34 [] []) (k26 : Int → Mem → PR) (hk26 : ∀ (x2 : Int) (s5 : Mem), SX7_placeOf B X (k26 x2 s5) s5 26 [(3, iv x2)] []) : ∀ (n : Nat) (x1 : Int) (s3 : Mem), SX7_placeOf B X (fX7_placeOf_L2 fu c1 c2 k34 k26 n x1 s3) s3 2 [(0, rv B 328), (1, iv c1), (2, iv c2), (3, iv x1)] [] := by
  intro n
  induction n with
  | zero => intro _ _; exact s_none
  | succ n ih =>
    intro x1 s1
    rw [fX7_placeOf_L2]
    refine s_iload_n 3 dX7_placeOf_2 rfl rfl ?_
    refine s_aload_n 0 dX7_placeOf_3 rfl rfl ?_
    refine s_getr (n := 1) (k' := 330) dX7_placeOf_4 ly7 fl_X7_13 kd_328 rfl rfl rfl ?_
    refine s_iload_n 1 dX7_placeOf_7 rfl rfl ?_
    refine s_iald 12 dX7_placeOf_8 kd_330 (by decide) (fun x3 => ?_)
    refine s_icmp_ge (tgt := 34) dX7_placeOf_9 (by decide) ?_ ?_
    · exact s_sub [] rfl (hk34 s1)
    · refine s_aload_n 0 dX7_placeOf_12 rfl rfl ?_
      refine s_getr (n := 2) (k' := 331) dX7_placeOf_13 ly7 fl_X7_16 kd_328 rfl rfl rfl ?_
      refine s_iload_n 1 dX7_placeOf_16 rfl rfl ?_
      refine s_iload_n 3 dX7_placeOf_17 rfl rfl ?_
      refine s_Si (rest := [rv B 331]) dX7_placeOf_18 lk_X7_165 meX7_at (ctX7_at B fu c1 x1 s1) rfl rfl ⟨rfl, rfl, by decide, by decide⟩ (Nat.le_of_ble_eq_true rfl) (fun x4 s2 => ?_)
      refine s_iald 96 dX7_placeOf_21 kd_331 (by decide) (fun x5 => ?_)
      refine s_iload_n 2 dX7_placeOf_22 rfl rfl ?_
      refine s_icmp_ne (tgt := 28) dX7_placeOf_23 (by decide) ?_ ?_
      · refine s_iinc (lv' := [(3, iv (x1 + 1)), (0, rv B 328), (1, iv c1), (2, iv c2)]) 3 dX7_placeOf_28 rfl (by decide) rfl ?_
        refine s_goto (tgt := 2) dX7_placeOf_31 (by decide) ?_
        exact s_sub [1, 2, 3, 0] rfl (ih (x1 + 1) s2)
      · exact s_sub [3] rfl (hk26 x1 s2)
set_option maxHeartbeats 4000000 in
set_option maxRecDepth 100000 in
theorem ctX7_placeOf (B fu : Nat) (a0 : Int) (a1 : Int) (σ : Mem) : CtI yX7_placeOf cX7_placeOf 4 (some .int) rmX7_placeOf B [rv B 328, iv a0, iv a1] σ (fX7_placeOf fu a0 a1 σ) := by
  refine ctI_intro (own := RX7) (lv := [(0, rv B 328), (1, iv a0), (2, iv a1)]) (by decide +kernel) rfl (Nat.le_of_ble_eq_true rfl) rfl (fun X hX => ?_)
  unfold fX7_placeOf
  refine s_iconst dX7_placeOf_0 ?_
  refine s_istore_n (lv' := [(3, iv 0), (0, rv B 328), (1, iv a0), (2, iv a1)]) dX7_placeOf_1 rfl (by decide) rfl ?_
  refine s_sub [1, 2, 3, 0] (lv' := [(0, rv B 328), (1, iv a0), (2, iv a1), (3, iv 0)]) rfl ?_
  refine fX7_placeOf_L2_s hX a0 a1 _ ?_ _ ?_ fu 0 σ
  · intro s6
    refine s_iconst dX7_placeOf_34 ?_
    exact s_iret hX dX7_placeOf_35
  · intro x6 s7
    refine s_iload_n 0 dX7_placeOf_26 rfl rfl ?_
    exact s_iret hX dX7_placeOf_27
abbrev rmX7_boardable : Room := { frames := 3, cells := 0, slots := 0, locals := 67 }
abbrev SX7_boardable (B : Nat) (X : Ctx) := Sim cX7_boardable RX7 4 rmX7_boardable B X
set_option maxHeartbeats 4000000 in
set_option maxRecDepth 100000 in
theorem ctX7_boardable (B fu : Nat) (a0 : Int) (a1 : Int) (σ : Mem) : CtL yX7_boardable cX7_boardable 4 (some .long) rmX7_boardable B [rv B 328, iv a0, iv a1] σ (fX7_boardable fu a0 a1 σ) := by
  refine ctL_intro (own := RX7) (lv := [(0, rv B 328), (1, iv a0), (2, iv a1)]) (by decide +kernel) rfl (Nat.le_of_ble_eq_true rfl) rfl (fun X hX => ?_)
  unfold fX7_boardable
  refine s_aload_n 0 dX7_boardable_0 rfl rfl ?_
  refine s_iload_n 1 dX7_boardable_1 rfl rfl ?_
  refine s_iload_n 2 dX7_boardable_2 rfl rfl ?_
  refine s_Vi (rest := []) dX7_boardable_3 lk_X7_224 meX7_placeOf (ctX7_placeOf B fu a0 a1 σ) kd_328 ⟨rfl, by decide⟩ rfl rfl ⟨rfl, rfl, by decide, by decide⟩ (Nat.le_of_ble_eq_true rfl) (fun x1 s1 => ?_)
  refine s_istore_n (lv' := [(3, iv x1), (0, rv B 328), (1, iv a0), (2, iv a1)]) dX7_boardable_6 rfl (by decide) rfl ?_
  refine s_aload_n 1 dX7_boardable_7 rfl rfl ?_
  refine s_getr (n := 8) (k' := 337) dX7_boardable_8 ly7 fl_X7_35 kd_328 rfl rfl rfl ?_
  refine s_iload_n 2 dX7_boardable_11 rfl rfl ?_
  refine s_zald 12 dX7_boardable_12 kd_337 (by decide) (fun x2 => ?_)
  refine s_jn (fun (j1 : Int → Mem → PR) => ∀ (x3 : Int) (s7 : Mem), SX7_boardable B X (j1 x3 s7) s7 57 [] [jv x3]) ?_ (fun j1 hj1 => ?_)
  · intro x3 s2
    exact s_lret hX dX7_boardable_57
  · refine s_jn (fun (j2 : Mem → PR) => ∀ (s6 : Mem), SX7_boardable B X (j2 s6) s6 45 [] []) ?_ (fun j2 hj2 => ?_)
    · intro s3
      refine s_ldc2 (x := -1) dX7_boardable_45 cl_X7_215 (by decide) ?_
      refine s_goto (tgt := 57) dX7_boardable_48 (by decide) ?_
      exact hj1 (-1) s3
    · refine s_if_ne (tgt := 45) dX7_boardable_13 (by decide) ?_ ?_
      · exact s_sub [] rfl (hj2 s1)
      · refine s_iload_n 0 dX7_boardable_16 rfl rfl ?_
        refine s_iconst dX7_boardable_17 ?_
        refine s_icmp_eq (tgt := 45) dX7_boardable_18 (by decide) ?_ ?_
        · exact s_sub [] rfl (hj2 s1)
        · refine s_iload_n 0 dX7_boardable_21 rfl rfl ?_
          refine s_aload_n 1 dX7_boardable_22 rfl rfl ?_
          refine s_getr (n := 1) (k' := 330) dX7_boardable_23 ly7 fl_X7_13 kd_328 rfl rfl rfl ?_
          refine s_iload_n 2 dX7_boardable_26 rfl rfl ?_
          refine s_iald 12 dX7_boardable_27 kd_330 (by decide) (fun x4 => ?_)
          refine s_iconst dX7_boardable_28 ?_
          refine s_isub dX7_boardable_29 ?_
          refine s_icmp_eq (tgt := 45) dX7_boardable_30 (by decide) ?_ ?_
          · exact s_sub [] rfl (hj2 s1)
          · refine s_iload_n 2 dX7_boardable_33 rfl rfl ?_
            refine s_iload_n 0 dX7_boardable_34 rfl rfl ?_
            refine s_Si (rest := []) dX7_boardable_35 lk_X7_165 meX7_at (ctX7_at B fu a0 x1 s1) rfl rfl ⟨rfl, rfl, by decide, by decide⟩ (Nat.le_of_ble_eq_true rfl) (fun x5 s4 => ?_)
            refine s_aload_n 1 dX7_boardable_38 rfl rfl ?_
            refine s_geti dX7_boardable_39 ly7 fl_X7_89 kd_328 rfl ?_
            refine s_icmp_ne (tgt := 51) dX7_boardable_42 (by decide) ?_ ?_
            · refine s_aload_n 1 dX7_boardable_51 rfl rfl ?_
              refine s_iload_n 2 dX7_boardable_52 rfl rfl ?_
              refine s_iload_n 0 dX7_boardable_53 rfl rfl ?_
              refine s_Vl (rest := []) dX7_boardable_54 lk_X7_221 meX7_boardingAt (ctX7_boardingAt B fu a0 x1 s4) kd_328 ⟨rfl, by decide⟩ rfl rfl ⟨rfl, rfl, by decide, by decide⟩ (Nat.le_of_ble_eq_true rfl) (fun x6 s5 => ?_)
              exact s_sub [] rfl (hj1 x6 s5)
            · exact s_sub [] rfl (hj2 s4)
abbrev rmX7_nextLine : Room := { frames := 4, cells := 0, slots := 0, locals := 90 }
abbrev SX7_nextLine (B : Nat) (X : Ctx) := Sim cX7_nextLine RX7 6 rmX7_nextLine B X
set_option maxHeartbeats 4000000 in
set_option maxRecDepth 100000 in
theorem fX7_nextLine_L4_s {B fu : Nat} {X : Ctx} (hX : CxI .int B X) (c1 : Int) (k64 : Int → Mem → PR) (hk64 : ∀ (x3 : Int) (s9 : Mem), SX7_nextLine B X (k64 x3 s9) s9 64 [(2, iv x3)] []) : ∀ (n : Nat) (x1 : Int) (x2 : Int) (s8 : Mem), SX7_nextLine B X (fX7_nextLine_L4 fu c1 k64 n x1 x2 s8) s8 4 [(0, rv B 328), (1, iv c1), (2, iv x1), (3, iv x2)] [] := by
  intro n
  induction n with
  | zero => intro _ _ _; exact s_none
  | succ n ih =>
    intro x1 x2 s1
    rw [fX7_nextLine_L4]
    refine s_iload_n 3 dX7_nextLine_4 rfl rfl ?_
    refine s_aload_n 0 dX7_nextLine_5 rfl rfl ?_
    refine s_geti dX7_nextLine_6 ly7 fl_X7_129 kd_328 rfl ?_
    refine s_icmp_ge (tgt := 64) dX7_nextLine_9 (by decide) ?_ ?_
    · exact s_sub [2] rfl (hk64 x1 s1)
    · refine s_aload_n 0 dX7_nextLine_12 rfl rfl ?_
      refine s_iload_n 3 dX7_nextLine_13 rfl rfl ?_
      refine s_iload_n 1 dX7_nextLine_14 rfl rfl ?_
      refine s_Vl (rest := []) dX7_nextLine_15 lk_X7_227 meX7_boardable (ctX7_boardable B fu x2 c1 s1) kd_328 ⟨rfl, by decide⟩ rfl rfl ⟨rfl, rfl, by decide, by decide⟩ (Nat.le_of_ble_eq_true rfl) (fun x4 s2 => ?_)
      refine s_lstore (lv' := [(4, jv x4), (0, rv B 328), (1, iv c1), (2, iv x1), (3, iv x2)]) dX7_nextLine_18 (by decide) rfl ?_
      refine s_lload 0 dX7_nextLine_20 rfl ?_
      refine s_lconst (x := 0) dX7_nextLine_22 (by decide) ?_
      refine s_jn (fun (j1 : Int → Mem → PR) => ∀ (x5 : Int) (s7 : Mem), SX7_nextLine B X (j1 x5 s7) s7 58 [(0, rv B 328), (1, iv c1), (2, iv x5), (3, iv x2)] []) ?_ (fun j1 hj1 => ?_)
      · intro x5 s3
        refine s_iinc (lv' := [(3, iv (x2 + 1)), (0, rv B 328), (1, iv c1), (2, iv x5)]) 3 dX7_nextLine_58 rfl (by decide) rfl ?_
        refine s_goto (tgt := 4) dX7_nextLine_61 (by decide) ?_
        exact s_sub [1, 2, 3, 0] rfl (ih x5 (x2 + 1) s3)
      · refine s_lif_lt (tgt := 58) dX7_nextLine_23 dX7_nextLine_24 (by decide) ?_ ?_
        · exact s_sub [1, 2, 3, 4] rfl (hj1 x1 s2)
        · refine s_aload_n 1 dX7_nextLine_27 rfl rfl ?_
          refine s_getr (n := 24) (k' := 353) dX7_nextLine_28 ly7 fl_X7_92 kd_328 rfl rfl rfl ?_
          refine s_iload_n 4 dX7_nextLine_31 rfl rfl ?_
          refine s_zald 12 dX7_nextLine_32 kd_353 (by decide) (fun x6 => ?_)
          refine s_if_ne (tgt := 58) dX7_nextLine_33 (by decide) ?_ ?_
          · exact s_sub [1, 2, 3, 4] rfl (hj1 x1 s2)
          · refine s_iload_n 3 dX7_nextLine_36 rfl rfl ?_
            refine s_iconst dX7_nextLine_37 ?_
            refine s_jn (fun (j2 : Mem → PR) => ∀ (s6 : Mem), SX7_nextLine B X (j2 s6) s6 56 [(0, rv B 328), (1, iv c1), (3, iv x2)] []) ?_ (fun j2 hj2 => ?_)
            · intro s4
              refine s_iload_n 2 dX7_nextLine_56 rfl rfl ?_
              refine s_istore_n (lv' := [(2, iv x2), (0, rv B 328), (1, iv c1), (3, iv x2)]) dX7_nextLine_57 rfl (by decide) rfl ?_
              exact s_sub [1, 2, 0, 3] rfl (hj1 x2 s4)
            · refine s_icmp_eq (tgt := 56) dX7_nextLine_38 (by decide) ?_ ?_
              · exact s_sub [1, 2, 4] rfl (hj2 s2)
              · refine s_lload 0 dX7_nextLine_41 rfl ?_
                refine s_aload_n 1 dX7_nextLine_43 rfl rfl ?_
                refine s_iload_n 3 dX7_nextLine_44 rfl rfl ?_
                refine s_iload_n 2 dX7_nextLine_45 rfl rfl ?_
                refine s_Vl (rest := [jv x4]) dX7_nextLine_46 lk_X7_227 meX7_boardable (ctX7_boardable B fu x1 c1 s2) kd_328 ⟨rfl, by decide⟩ rfl rfl ⟨rfl, rfl, by decide, by decide⟩ (Nat.le_of_ble_eq_true rfl) (fun x7 s5 => ?_)
                refine s_lif_lt (tgt := 56) dX7_nextLine_49 dX7_nextLine_50 (by decide) ?_ ?_
                · exact s_sub [1, 2, 4] rfl (hj2 s5)
                · refine s_goto (tgt := 58) dX7_nextLine_53 (by decide) ?_
                  exact s_sub [1, 2, 3, 4] rfl (hj1 x1 s5)
set_option maxHeartbeats 4000000 in
set_option maxRecDepth 100000 in
theorem ctX7_nextLine (B fu : Nat) (a0 : Int) (σ : Mem) : CtI yX7_nextLine cX7_nextLine 6 (some .int) rmX7_nextLine B [rv B 328, iv a0] σ (fX7_nextLine fu a0 σ) := by
  refine ctI_intro (own := RX7) (lv := [(0, rv B 328), (1, iv a0)]) (by decide +kernel) rfl (Nat.le_of_ble_eq_true rfl) rfl (fun X hX => ?_)
  unfold fX7_nextLine
  refine s_iconst dX7_nextLine_0 ?_
  refine s_istore_n (lv' := [(2, iv (-1)), (0, rv B 328), (1, iv a0)]) dX7_nextLine_1 rfl (by decide) rfl ?_
  refine s_iconst dX7_nextLine_2 ?_
  refine s_istore_n (lv' := [(3, iv 0), (2, iv (-1)), (0, rv B 328), (1, iv a0)]) dX7_nextLine_3 rfl (by decide) rfl ?_
  refine s_sub [2, 3, 1, 0] (lv' := [(0, rv B 328), (1, iv a0), (2, iv (-1)), (3, iv 0)]) rfl ?_
  refine fX7_nextLine_L4_s hX a0 _ ?_ fu (-1) 0 σ
  intro x8 s10
  refine s_iload_n 0 dX7_nextLine_64 rfl rfl ?_
  exact s_iret hX dX7_nextLine_65
abbrev rmX7_laysSet : Room := { frames := 5, cells := 0, slots := 0, locals := 115 }
abbrev SX7_laysSet (B : Nat) (X : Ctx) := Sim cX7_laysSet RX7 6 rmX7_laysSet B X
set_option maxHeartbeats 4000000 in
set_option maxRecDepth 100000 in
theorem fX7_laysSet_L23_s {B fu : Nat} {X : Ctx} (hX : CxV B X) (c1 : Int) (c2 : Int) (k44 : Mem → PR) (hk44 : ∀ (s5 : Mem), SX7_laysSet B X (k44 s5) s5 44 [(0, rv B 328), (1, iv c1), (2, jv c2), (4, iv 0)] []) : ∀ (n : Nat) (x2 : Int) (s4 : Mem), SX7_laysSet B X (fX7_laysSet_L23 fu c1 c2 k44 n x2 s4) s4 23 [(0, rv B 328), (1, iv c1), (2, jv c2), (4, iv 0), (5, iv x2)] [] := by
  intro n
  induction n with
  | zero => intro _ _; exact s_none
  | succ n ih =>
    intro x2 s2
    rw [fX7_laysSet_L23]
    refine s_iload 4 dX7_laysSet_23 rfl ?_
    refine s_bipush dX7_laysSet_25 (by decide) ?_
    refine s_icmp_ge (tgt := 44) dX7_laysSet_27 (by decide) ?_ ?_
    · exact s_sub [0, 1, 2, 3] rfl (hk44 s2)
    · refine s_aload_n 0 dX7_laysSet_30 rfl rfl ?_
      refine s_getr (n := 24) (k' := 353) dX7_laysSet_31 ly7 fl_X7_92 kd_328 rfl rfl rfl ?_
      refine s_iload 4 dX7_laysSet_34 rfl ?_
      refine s_iconst dX7_laysSet_36 ?_
      refine s_zast 12 dX7_laysSet_37 kd_353 (by decide) (fun s3 => ?_)
      refine s_iinc (lv' := [(5, iv (x2 + 1)), (0, rv B 328), (1, iv c1), (2, jv c2), (4, iv 0)]) 4 dX7_laysSet_38 rfl (by decide) rfl ?_
      refine s_goto (tgt := 23) dX7_laysSet_41 (by decide) ?_
      exact s_sub [1, 2, 3, 4, 0] rfl (ih (x2 + 1) s3)
set_option maxHeartbeats 4000000 in
set_option maxRecDepth 100000 in
theorem fX7_laysSet_L51_s {B fu : Nat} {X : Ctx} (hX : CxV B X) (c3 : Int) (k155 : Int → Int → Mem → PR) (hk155 : ∀ (x7 : Int) (x8 : Int) (s18 : Mem), SX7_laysSet B X (k155 x7 x8 s18) s18 155 [(0, rv B 328), (1, iv c3), (2, jv x7), (4, iv x8)] []) : ∀ (n : Nat) (x4 : Int) (x5 : Int) (x6 : Int) (s17 : Mem), SX7_laysSet B X (fX7_laysSet_L51 fu c3 k155 n x4 x5 x6 s17) s17 51 [(0, rv B 328), (1, iv c3), (2, jv x4), (4, iv x5), (5, iv x6)] [] := by
  intro n
  induction n with
  | zero => intro _ _ _ _; exact s_none
  | succ n ih =>
    intro x4 x5 x6 s8
    rw [fX7_laysSet_L51]
    refine s_iload 4 dX7_laysSet_51 rfl ?_
    refine s_iconst dX7_laysSet_53 ?_
    refine s_icmp_eq (tgt := 155) dX7_laysSet_54 (by decide) ?_ ?_
    · exact s_sub [0, 1, 2, 3] rfl (hk155 x4 x5 s8)
    · refine s_iload 3 dX7_laysSet_57 rfl ?_
      refine s_jn (fun (j1 : Mem → PR) => ∀ (s16 : Mem), SX7_laysSet B X (j1 s16) s16 78 [(0, rv B 328), (1, iv c3), (2, jv x4), (4, iv x5), (5, iv x6)] []) ?_ (fun j1 hj1 => ?_)
      · intro s9
        refine s_lload_n 2 dX7_laysSet_78 rfl rfl ?_
        refine s_aload_n 0 dX7_laysSet_79 rfl rfl ?_
        refine s_getr (n := 0) (k' := 329) dX7_laysSet_80 ly7 fl_X7_9 kd_328 rfl rfl rfl ?_
        refine s_iload 4 dX7_laysSet_83 rfl ?_
        refine s_iald 12 dX7_laysSet_85 kd_329 (by decide) (fun x9 => ?_)
        refine s_i2l dX7_laysSet_86 ?_
        refine s_aload_n 0 dX7_laysSet_87 rfl rfl ?_
        refine s_iload 4 dX7_laysSet_88 rfl ?_
        refine s_iload_n 1 dX7_laysSet_90 rfl rfl ?_
        refine s_Vl (rest := [jv (w32 x9), jv x4]) dX7_laysSet_91 lk_X7_227 meX7_boardable (ctX7_boardable B fu x6 c3 s9) kd_328 ⟨rfl, by decide⟩ rfl rfl ⟨rfl, rfl, by decide, by decide⟩ (Nat.le_of_ble_eq_true rfl) (fun x10 s10 => ?_)
        refine s_lmul dX7_laysSet_94 ?_
        refine s_ladd dX7_laysSet_95 ?_
        refine s_ltl (fun x11 => ?_)
        refine s_lstore_n (lv' := [(2, jv x11), (0, rv B 328), (1, iv c3), (4, iv x5), (5, iv x6)]) dX7_laysSet_96 rfl (by decide) rfl ?_
        refine s_iload 3 dX7_laysSet_97 rfl ?_
        refine s_aload_n 1 dX7_laysSet_99 rfl rfl ?_
        refine s_getr (n := 0) (k' := 329) dX7_laysSet_100 ly7 fl_X7_9 kd_328 rfl rfl rfl ?_
        refine s_iload 4 dX7_laysSet_103 rfl ?_
        refine s_iald 12 dX7_laysSet_105 kd_329 (by decide) (fun x12 => ?_)
        refine s_iadd dX7_laysSet_106 ?_
        refine s_lti (fun x13 => ?_)
        refine s_istore (lv' := [(4, iv x13), (2, jv x11), (0, rv B 328), (1, iv c3), (5, iv x6)]) dX7_laysSet_107 (by decide) rfl ?_
        refine s_aload_n 2 dX7_laysSet_109 rfl rfl ?_
        refine s_getr (n := 24) (k' := 353) dX7_laysSet_110 ly7 fl_X7_92 kd_328 rfl rfl rfl ?_
        refine s_iload 4 dX7_laysSet_113 rfl ?_
        refine s_iconst dX7_laysSet_115 ?_
        refine s_zast 12 dX7_laysSet_116 kd_353 (by decide) (fun s11 => ?_)
        refine s_aload_n 2 dX7_laysSet_117 rfl rfl ?_
        refine s_getr (n := 22) (k' := 351) dX7_laysSet_118 ly7 fl_X7_83 kd_328 rfl rfl rfl ?_
        refine s_bipush dX7_laysSet_121 (by decide) ?_
        refine s_iload_n 3 dX7_laysSet_123 rfl rfl ?_
        refine s_imul dX7_laysSet_124 ?_
        refine s_aload_n 2 dX7_laysSet_125 rfl rfl ?_
        refine s_getr (n := 23) (k' := 352) dX7_laysSet_126 ly7 fl_X7_86 kd_328 rfl rfl rfl ?_
        refine s_iload_n 3 dX7_laysSet_129 rfl rfl ?_
        refine s_iald 10 dX7_laysSet_130 kd_352 (by decide) (fun x14 => ?_)
        refine s_iadd dX7_laysSet_131 ?_
        refine s_iload 4 dX7_laysSet_132 rfl ?_
        refine s_iast 120 dX7_laysSet_134 kd_351 (by decide) (fun s12 => ?_)
        refine s_aload_n 2 dX7_laysSet_135 rfl rfl ?_
        refine s_getr (n := 23) (k' := 352) dX7_laysSet_136 ly7 fl_X7_86 kd_328 rfl rfl rfl ?_
        refine s_iload_n 3 dX7_laysSet_139 rfl rfl ?_
        refine s_dup2 dX7_laysSet_140 rfl rfl ?_
        refine s_iald 10 dX7_laysSet_141 kd_352 (by decide) (fun x15 => ?_)
        refine s_iconst dX7_laysSet_142 ?_
        refine s_iadd dX7_laysSet_143 ?_
        refine s_iast 10 dX7_laysSet_144 kd_352 (by decide) (fun s13 => ?_)
        refine s_aload_n 2 dX7_laysSet_145 rfl rfl ?_
        refine s_iload_n 3 dX7_laysSet_146 rfl rfl ?_
        refine s_Vi (rest := []) dX7_laysSet_147 lk_X7_230 meX7_nextLine (ctX7_nextLine B fu c3 s13) kd_328 ⟨rfl, by decide⟩ rfl rfl ⟨rfl, rfl, by decide, by decide⟩ (Nat.le_of_ble_eq_true rfl) (fun x16 s14 => ?_)
        refine s_istore (lv' := [(5, iv x16), (4, iv x13), (2, jv x11), (0, rv B 328), (1, iv c3)]) dX7_laysSet_150 (by decide) rfl ?_
        refine s_goto (tgt := 51) dX7_laysSet_152 (by decide) ?_
        exact s_sub [3, 4, 2, 1, 0] rfl (ih x11 x13 x16 s14)
      · refine s_if_eq (tgt := 78) dX7_laysSet_59 (by decide) ?_ ?_
        · exact hj1 s8
        · refine s_aload_n 0 dX7_laysSet_62 rfl rfl ?_
          refine s_iload 4 dX7_laysSet_63 rfl ?_
          refine s_iload_n 1 dX7_laysSet_65 rfl rfl ?_
          refine s_Vl (rest := []) dX7_laysSet_66 lk_X7_227 meX7_boardable (ctX7_boardable B fu x6 c3 s8) kd_328 ⟨rfl, by decide⟩ rfl rfl ⟨rfl, rfl, by decide, by decide⟩ (Nat.le_of_ble_eq_true rfl) (fun x17 s15 => ?_)
          refine s_lload_n 2 dX7_laysSet_69 rfl rfl ?_
          refine s_iload 3 dX7_laysSet_70 rfl ?_
          refine s_i2l dX7_laysSet_72 ?_
          refine s_ldiv dX7_laysSet_73 ?_
          refine s_lif_ge (tgt := 155) dX7_laysSet_74 dX7_laysSet_75 (by decide) ?_ ?_
          · exact s_sub [0, 1, 2, 3] rfl (hk155 x4 x5 s15)
          · exact hj1 s15
set_option maxHeartbeats 4000000 in
set_option maxRecDepth 100000 in
theorem ctX7_laysSet (B fu : Nat) (a0 : Int) (σ : Mem) : CtV yX7_laysSet cX7_laysSet 6 none rmX7_laysSet B [rv B 328, iv a0] σ (fX7_laysSet fu a0 σ) := by
  refine ctV_intro (own := RX7) (lv := [(0, rv B 328), (1, iv a0)]) (by decide +kernel) rfl (Nat.le_of_ble_eq_true rfl) rfl (fun X hX => ?_)
  unfold fX7_laysSet
  refine s_ldc2 (x := 60) dX7_laysSet_0 cl_X7_205 (by decide) ?_
  refine s_aload_n 0 dX7_laysSet_3 rfl rfl ?_
  refine s_geti dX7_laysSet_4 ly7 fl_X7_39 kd_328 rfl ?_
  refine s_i2l dX7_laysSet_7 ?_
  refine s_lmul dX7_laysSet_8 ?_
  refine s_ltl (fun x1 => ?_)
  refine s_lstore_n (lv' := [(2, jv x1), (0, rv B 328), (1, iv a0)]) dX7_laysSet_9 rfl (by decide) rfl ?_
  refine s_iconst dX7_laysSet_10 ?_
  refine s_istore (lv' := [(4, iv 0), (2, jv x1), (0, rv B 328), (1, iv a0)]) dX7_laysSet_11 (by decide) rfl ?_
  refine s_aload_n 2 dX7_laysSet_13 rfl rfl ?_
  refine s_getr (n := 23) (k' := 352) dX7_laysSet_14 ly7 fl_X7_86 kd_328 rfl rfl rfl ?_
  refine s_iload_n 3 dX7_laysSet_17 rfl rfl ?_
  refine s_iconst dX7_laysSet_18 ?_
  refine s_iast 10 dX7_laysSet_19 kd_352 (by decide) (fun s1 => ?_)
  refine s_iconst dX7_laysSet_20 ?_
  refine s_istore (lv' := [(5, iv 0), (4, iv 0), (2, jv x1), (0, rv B 328), (1, iv a0)]) dX7_laysSet_21 (by decide) rfl ?_
  refine s_sub [3, 4, 2, 1, 0] (lv' := [(0, rv B 328), (1, iv a0), (2, jv x1), (4, iv 0), (5, iv 0)]) rfl ?_
  refine fX7_laysSet_L23_s hX a0 x1 _ ?_ fu 0 s1
  intro s6
  refine s_aload_n 0 dX7_laysSet_44 rfl rfl ?_
  refine s_iload_n 1 dX7_laysSet_45 rfl rfl ?_
  refine s_Vi (rest := []) dX7_laysSet_46 lk_X7_230 meX7_nextLine (ctX7_nextLine B fu a0 s6) kd_328 ⟨rfl, by decide⟩ rfl rfl ⟨rfl, rfl, by decide, by decide⟩ (Nat.le_of_ble_eq_true rfl) (fun x3 s7 => ?_)
  refine s_istore (lv' := [(5, iv x3), (0, rv B 328), (1, iv a0), (2, jv x1), (4, iv 0)]) dX7_laysSet_49 (by decide) rfl ?_
  refine s_sub [1, 2, 3, 4, 0] (lv' := [(0, rv B 328), (1, iv a0), (2, jv x1), (4, iv 0), (5, iv x3)]) rfl ?_
  refine fX7_laysSet_L51_s hX a0 _ ?_ fu x1 0 x3 s7
  intro x18 x19 s19
  refine s_aload_n 0 dX7_laysSet_155 rfl rfl ?_
  refine s_getr (n := 21) (k' := 350) dX7_laysSet_156 ly7 fl_X7_80 kd_328 rfl rfl rfl ?_
  refine s_iload_n 1 dX7_laysSet_159 rfl rfl ?_
  refine s_iload 3 dX7_laysSet_160 rfl ?_
  refine s_iast 10 dX7_laysSet_162 kd_350 (by decide) (fun s20 => ?_)
  refine s_aload_n 0 dX7_laysSet_163 rfl rfl ?_
  refine s_getr (n := 17) (k' := 346) dX7_laysSet_164 ly7 fl_X7_68 kd_328 rfl rfl rfl ?_
  refine s_iload_n 1 dX7_laysSet_167 rfl rfl ?_
  refine s_iload 3 dX7_laysSet_168 rfl ?_
  refine s_jn (fun (j2 : Int → Mem → PR) => ∀ (x20 : Int) (s23 : Mem), SX7_laysSet B X (j2 x20 s23) s23 184 [] [jv x20, iv a0, rv B 346]) ?_ (fun j2 hj2 => ?_)
  · intro x20 s21
    refine s_last 10 dX7_laysSet_184 kd_346 (by decide) (fun s22 => ?_)
    exact s_vret hX dX7_laysSet_185
  · refine s_if_ne (tgt := 179) dX7_laysSet_170 (by decide) ?_ ?_
    · refine s_lload_n 2 dX7_laysSet_179 rfl rfl ?_
      refine s_iload 3 dX7_laysSet_180 rfl ?_
      refine s_i2l dX7_laysSet_182 ?_
      refine s_ldiv dX7_laysSet_183 ?_
      exact s_sub [] rfl (hj2 (div64 x18 (w32 x19)) s20)
    · refine s_ldc2 (x := -1) dX7_laysSet_173 cl_X7_215 (by decide) ?_
      refine s_goto (tgt := 184) dX7_laysSet_176 (by decide) ?_
      exact s_sub [] rfl (hj2 (-1) s20)
abbrev rmX7_isRoundDone : Room := { frames := 6, cells := 0, slots := 0, locals := 140 }
abbrev SX7_isRoundDone (B : Nat) (X : Ctx) := Sim cX7_isRoundDone RX7 3 rmX7_isRoundDone B X
set_option maxHeartbeats 4000000 in
set_option maxRecDepth 100000 in
theorem fX7_isRoundDone_L2_s {B fu : Nat} {X : Ctx} (hX : CxI .boolean B X) (k26 : Mem → PR) (hk26 : ∀ (s4 : Mem), SX7_isRoundDone B X (k26 s4) s4 26 [(0, rv B 328)] []) : ∀ (n : Nat) (x1 : Int) (s3 : Mem), SX7_isRoundDone B X (fX7_isRoundDone_L2 fu k26 n x1 s3) s3 2 [(0, rv B 328), (1, iv x1)] [] := by
  intro n
  induction n with
  | zero => intro _ _; exact s_none
  | succ n ih =>
    intro x1 s1
    rw [fX7_isRoundDone_L2]
    refine s_iload_n 1 dX7_isRoundDone_2 rfl rfl ?_
    refine s_bipush dX7_isRoundDone_3 (by decide) ?_
    refine s_icmp_ge (tgt := 26) dX7_isRoundDone_5 (by decide) ?_ ?_
    · exact s_sub [0] rfl (hk26 s1)
    · refine s_aload_n 0 dX7_isRoundDone_8 rfl rfl ?_
      refine s_getr (n := 18) (k' := 347) dX7_isRoundDone_9 ly7 fl_X7_71 kd_328 rfl rfl rfl ?_
      refine s_iload_n 1 dX7_isRoundDone_12 rfl rfl ?_
      refine s_aload_n 0 dX7_isRoundDone_13 rfl rfl ?_
      refine s_getr (n := 17) (k' := 346) dX7_isRoundDone_14 ly7 fl_X7_68 kd_328 rfl rfl rfl ?_
      refine s_iload_n 1 dX7_isRoundDone_17 rfl rfl ?_
      refine s_lald 10 dX7_isRoundDone_18 kd_346 (by decide) (fun x2 => ?_)
      refine s_last 10 dX7_isRoundDone_19 kd_347 (by decide) (fun s2 => ?_)
      refine s_iinc (lv' := [(1, iv (x1 + 1)), (0, rv B 328)]) 1 dX7_isRoundDone_20 rfl (by decide) rfl ?_
      refine s_goto (tgt := 2) dX7_isRoundDone_23 (by decide) ?_
      exact s_sub [1, 0] rfl (ih (x1 + 1) s2)
set_option maxHeartbeats 4000000 in
set_option maxRecDepth 100000 in
theorem fX7_isRoundDone_L34_s {B fu : Nat} {X : Ctx} (hX : CxI .boolean B X) (k108 : Int → Mem → PR) (hk108 : ∀ (x5 : Int) (s18 : Mem), SX7_isRoundDone B X (k108 x5 s18) s18 108 [(0, rv B 328), (1, iv x5)] []) : ∀ (n : Nat) (x3 : Int) (x4 : Int) (s17 : Mem), SX7_isRoundDone B X (fX7_isRoundDone_L34 fu k108 n x3 x4 s17) s17 34 [(0, rv B 328), (1, iv x3), (2, iv x4)] [] := by
  intro n
  induction n with
  | zero => intro _ _ _; exact s_none
  | succ n ih =>
    intro x3 x4 s7
    rw [fX7_isRoundDone_L34]
    refine s_iload_n 2 dX7_isRoundDone_34 rfl rfl ?_
    refine s_bipush dX7_isRoundDone_35 (by decide) ?_
    refine s_icmp_ge (tgt := 108) dX7_isRoundDone_37 (by decide) ?_ ?_
    · exact s_sub [0, 1] rfl (hk108 x3 s7)
    · refine s_aload_n 0 dX7_isRoundDone_40 rfl rfl ?_
      refine s_getr (n := 23) (k' := 352) dX7_isRoundDone_41 ly7 fl_X7_86 kd_328 rfl rfl rfl ?_
      refine s_iload_n 2 dX7_isRoundDone_44 rfl rfl ?_
      refine s_iconst dX7_isRoundDone_45 ?_
      refine s_iast 10 dX7_isRoundDone_46 kd_352 (by decide) (fun s8 => ?_)
      refine s_aload_n 0 dX7_isRoundDone_47 rfl rfl ?_
      refine s_getr (n := 21) (k' := 350) dX7_isRoundDone_48 ly7 fl_X7_80 kd_328 rfl rfl rfl ?_
      refine s_iload_n 2 dX7_isRoundDone_51 rfl rfl ?_
      refine s_iconst dX7_isRoundDone_52 ?_
      refine s_iast 10 dX7_isRoundDone_53 kd_350 (by decide) (fun s9 => ?_)
      refine s_iload_n 2 dX7_isRoundDone_54 rfl rfl ?_
      refine s_aload_n 0 dX7_isRoundDone_55 rfl rfl ?_
      refine s_geti dX7_isRoundDone_56 ly7 fl_X7_197 kd_328 rfl ?_
      refine s_jn (fun (j1 : Mem → PR) => ∀ (s16 : Mem), SX7_isRoundDone B X (j1 s16) s16 76 [(0, rv B 328), (1, iv x3), (2, iv x4)] []) ?_ (fun j1 hj1 => ?_)
      · intro s10
        refine s_iload_n 1 dX7_isRoundDone_76 rfl rfl ?_
        refine s_jn (fun (j2 : Int → Mem → PR) => ∀ (x6 : Int) (s14 : Mem), SX7_isRoundDone B X (j2 x6 s14) s14 101 [(0, rv B 328), (2, iv x4)] [iv x6]) ?_ (fun j2 hj2 => ?_)
        · intro x6 s11
          refine s_istore_n (lv' := [(1, iv x6), (0, rv B 328), (2, iv x4)]) dX7_isRoundDone_101 rfl (by decide) rfl ?_
          refine s_iinc (lv' := [(2, iv (x4 + 1)), (1, iv x6), (0, rv B 328)]) 2 dX7_isRoundDone_102 rfl (by decide) rfl ?_
          refine s_goto (tgt := 34) dX7_isRoundDone_105 (by decide) ?_
          exact s_sub [2, 1, 0] rfl (ih x6 (x4 + 1) s11)
        · refine s_jn (fun (j3 : Mem → PR) => ∀ (s13 : Mem), SX7_isRoundDone B X (j3 s13) s13 100 [(0, rv B 328), (2, iv x4)] []) ?_ (fun j3 hj3 => ?_)
          · intro s12
            refine s_iconst dX7_isRoundDone_100 ?_
            exact hj2 0 s12
          · refine s_if_eq (tgt := 100) dX7_isRoundDone_77 (by decide) ?_ ?_
            · exact s_sub [0, 2] rfl (hj3 s10)
            · refine s_aload_n 0 dX7_isRoundDone_80 rfl rfl ?_
              refine s_getr (n := 17) (k' := 346) dX7_isRoundDone_81 ly7 fl_X7_68 kd_328 rfl rfl rfl ?_
              refine s_iload_n 2 dX7_isRoundDone_84 rfl rfl ?_
              refine s_lald 10 dX7_isRoundDone_85 kd_346 (by decide) (fun x7 => ?_)
              refine s_aload_n 0 dX7_isRoundDone_86 rfl rfl ?_
              refine s_getr (n := 18) (k' := 347) dX7_isRoundDone_87 ly7 fl_X7_71 kd_328 rfl rfl rfl ?_
              refine s_iload_n 2 dX7_isRoundDone_90 rfl rfl ?_
              refine s_lald 10 dX7_isRoundDone_91 kd_347 (by decide) (fun x8 => ?_)
              refine s_lif_ne (tgt := 100) dX7_isRoundDone_92 dX7_isRoundDone_93 (by decide) ?_ ?_
              · exact s_sub [0, 2] rfl (hj3 s10)
              · refine s_iconst dX7_isRoundDone_96 ?_
                refine s_goto (tgt := 101) dX7_isRoundDone_97 (by decide) ?_
                exact s_sub [0, 2] rfl (hj2 1 s10)
      · refine s_icmp_eq (tgt := 76) dX7_isRoundDone_59 (by decide) ?_ ?_
        · exact hj1 s9
        · refine s_aload_n 0 dX7_isRoundDone_62 rfl rfl ?_
          refine s_getr (n := 10) (k' := 339) dX7_isRoundDone_63 ly7 fl_X7_46 kd_328 rfl rfl rfl ?_
          refine s_iload_n 2 dX7_isRoundDone_66 rfl rfl ?_
          refine s_zald 10 dX7_isRoundDone_67 kd_339 (by decide) (fun x9 => ?_)
          refine s_if_ne (tgt := 76) dX7_isRoundDone_68 (by decide) ?_ ?_
          · exact hj1 s9
          · refine s_aload_n 0 dX7_isRoundDone_71 rfl rfl ?_
            refine s_iload_n 2 dX7_isRoundDone_72 rfl rfl ?_
            refine s_Vv (rest := []) dX7_isRoundDone_73 lk_X7_236 meX7_laysSet (ctX7_laysSet B fu x4 s9) kd_328 ⟨rfl, by decide⟩ rfl rfl ⟨rfl, rfl, by decide, by decide⟩ (Nat.le_of_ble_eq_true rfl) (fun _ s15 => ?_)
            exact hj1 s15
set_option maxHeartbeats 4000000 in
set_option maxRecDepth 100000 in
theorem ctX7_isRoundDone (B fu : Nat) (σ : Mem) : CtI yX7_isRoundDone cX7_isRoundDone 3 (some .boolean) rmX7_isRoundDone B [rv B 328] σ (fX7_isRoundDone fu σ) := by
  refine ctI_intro (own := RX7) (lv := [(0, rv B 328)]) (by decide +kernel) rfl (Nat.le_of_ble_eq_true rfl) rfl (fun X hX => ?_)
  unfold fX7_isRoundDone
  refine s_iconst dX7_isRoundDone_0 ?_
  refine s_istore_n (lv' := [(1, iv 0), (0, rv B 328)]) dX7_isRoundDone_1 rfl (by decide) rfl ?_
  refine s_sub [1, 0] (lv' := [(0, rv B 328), (1, iv 0)]) rfl ?_
  refine fX7_isRoundDone_L2_s hX _ ?_ fu 0 σ
  intro s5
  refine s_aload_n 0 dX7_isRoundDone_26 rfl rfl ?_
  refine s_Vv (rest := []) dX7_isRoundDone_27 lk_X7_233 meX7_laysAboard (ctX7_laysAboard B fu s5) kd_328 ⟨rfl, by decide⟩ rfl rfl ⟨rfl, rfl, by decide, by decide⟩ (Nat.le_of_ble_eq_true rfl) (fun _ s6 => ?_)
  refine s_iconst dX7_isRoundDone_30 ?_
  refine s_istore_n (lv' := [(1, iv 1), (0, rv B 328)]) dX7_isRoundDone_31 rfl (by decide) rfl ?_
  refine s_iconst dX7_isRoundDone_32 ?_
  refine s_istore_n (lv' := [(2, iv 0), (1, iv 1), (0, rv B 328)]) dX7_isRoundDone_33 rfl (by decide) rfl ?_
  refine s_sub [2, 1, 0] (lv' := [(0, rv B 328), (1, iv 1), (2, iv 0)]) rfl ?_
  refine fX7_isRoundDone_L34_s hX _ ?_ fu 1 0 s6
  intro x10 s19
  refine s_aload_n 0 dX7_isRoundDone_108 rfl rfl ?_
  refine s_dup dX7_isRoundDone_109 rfl ?_
  refine s_geti dX7_isRoundDone_110 ly7 fl_X7_239 kd_328 rfl ?_
  refine s_iconst dX7_isRoundDone_113 ?_
  refine s_iadd dX7_isRoundDone_114 ?_
  refine s_puti dX7_isRoundDone_115 ly7 ty7 fl_X7_239 kd_328 rfl po7_36 ⟨rfl, rfl, by decide⟩ (fun s20 => ?_)
  refine s_iload_n 1 dX7_isRoundDone_118 rfl rfl ?_
  exact s_zret hX dX7_isRoundDone_119
abbrev rmX7_laysCosts : Room := { frames := 7, cells := 0, slots := 0, locals := 162 }
abbrev SX7_laysCosts (B : Nat) (X : Ctx) := Sim cX7_laysCosts RX7 2 rmX7_laysCosts B X
set_option maxHeartbeats 4000000 in
set_option maxRecDepth 100000 in
theorem fX7_laysCosts_L2_s {B fu : Nat} {X : Ctx} (hX : CxV B X) (k44 : Mem → PR) (hk44 : ∀ (s8 : Mem), SX7_laysCosts B X (k44 s8) s8 44 [(0, rv B 328)] []) : ∀ (n : Nat) (x1 : Int) (s7 : Mem), SX7_laysCosts B X (fX7_laysCosts_L2 fu k44 n x1 s7) s7 2 [(0, rv B 328), (1, iv x1)] [] := by
  intro n
  induction n with
  | zero => intro _ _; exact s_none
  | succ n ih =>
    intro x1 s1
    rw [fX7_laysCosts_L2]
    refine s_iload_n 1 dX7_laysCosts_2 rfl rfl ?_
    refine s_bipush dX7_laysCosts_3 (by decide) ?_
    refine s_icmp_ge (tgt := 44) dX7_laysCosts_5 (by decide) ?_ ?_
    · exact s_sub [0] rfl (hk44 s1)
    · refine s_aload_n 0 dX7_laysCosts_8 rfl rfl ?_
      refine s_getr (n := 17) (k' := 346) dX7_laysCosts_9 ly7 fl_X7_68 kd_328 rfl rfl rfl ?_
      refine s_iload_n 1 dX7_laysCosts_12 rfl rfl ?_
      refine s_iload_n 1 dX7_laysCosts_13 rfl rfl ?_
      refine s_aload_n 0 dX7_laysCosts_14 rfl rfl ?_
      refine s_geti dX7_laysCosts_15 ly7 fl_X7_197 kd_328 rfl ?_
      refine s_jn (fun (j1 : Int → Mem → PR) => ∀ (x2 : Int) (s6 : Mem), SX7_laysCosts B X (j1 x2 s6) s6 37 [(0, rv B 328), (1, iv x1)] [jv x2, iv x1, rv B 346]) ?_ (fun j1 hj1 => ?_)
      · intro x2 s2
        refine s_last 10 dX7_laysCosts_37 kd_346 (by decide) (fun s3 => ?_)
        refine s_iinc (lv' := [(1, iv (x1 + 1)), (0, rv B 328)]) 1 dX7_laysCosts_38 rfl (by decide) rfl ?_
        refine s_goto (tgt := 2) dX7_laysCosts_41 (by decide) ?_
        exact s_sub [1, 0] rfl (ih (x1 + 1) s3)
      · refine s_jn (fun (j2 : Mem → PR) => ∀ (s5 : Mem), SX7_laysCosts B X (j2 s5) s5 34 [(0, rv B 328), (1, iv x1)] [iv x1, rv B 346]) ?_ (fun j2 hj2 => ?_)
        · intro s4
          refine s_ldc2 (x := -1) dX7_laysCosts_34 cl_X7_215 (by decide) ?_
          exact hj1 (-1) s4
        · refine s_icmp_ne (tgt := 34) dX7_laysCosts_18 (by decide) ?_ ?_
          · exact hj2 s1
          · refine s_aload_n 0 dX7_laysCosts_21 rfl rfl ?_
            refine s_getr (n := 10) (k' := 339) dX7_laysCosts_22 ly7 fl_X7_46 kd_328 rfl rfl rfl ?_
            refine s_iload_n 1 dX7_laysCosts_25 rfl rfl ?_
            refine s_zald 10 dX7_laysCosts_26 kd_339 (by decide) (fun x3 => ?_)
            refine s_if_ne (tgt := 34) dX7_laysCosts_27 (by decide) ?_ ?_
            · exact hj2 s1
            · refine s_lconst (x := 0) dX7_laysCosts_30 (by decide) ?_
              refine s_goto (tgt := 37) dX7_laysCosts_31 (by decide) ?_
              exact hj1 0 s1
set_option maxHeartbeats 4000000 in
set_option maxRecDepth 100000 in
theorem fX7_laysCosts_L51_s {B fu : Nat} {X : Ctx} (hX : CxV B X) (k63 : Mem → PR) (hk63 : ∀ (s14 : Mem), SX7_laysCosts B X (k63 s14) s14 63 [] []) : ∀ (n : Nat) (x4 : Int) (s13 : Mem), SX7_laysCosts B X (fX7_laysCosts_L51 fu k63 n x4 s13) s13 51 [(0, rv B 328), (1, iv x4)] [] := by
  intro n
  induction n with
  | zero => intro _ _; exact s_none
  | succ n ih =>
    intro x4 s11
    rw [fX7_laysCosts_L51]
    refine s_iload_n 1 dX7_laysCosts_51 rfl rfl ?_
    refine s_if_ne (tgt := 63) dX7_laysCosts_52 (by decide) ?_ ?_
    · exact s_sub [] rfl (hk63 s11)
    · refine s_aload_n 0 dX7_laysCosts_55 rfl rfl ?_
      refine s_Vi (rest := []) dX7_laysCosts_56 lk_X7_242 meX7_isRoundDone (ctX7_isRoundDone B fu s11) kd_328 ⟨rfl, by decide⟩ rfl rfl ⟨rfl, rfl, by decide, by decide⟩ (Nat.le_of_ble_eq_true rfl) (fun x5 s12 => ?_)
      refine s_istore_n (lv' := [(1, iv x5), (0, rv B 328)]) dX7_laysCosts_59 rfl (by decide) rfl ?_
      refine s_goto (tgt := 51) dX7_laysCosts_60 (by decide) ?_
      exact s_sub [1, 0] rfl (ih x5 s12)
set_option maxHeartbeats 4000000 in
set_option maxRecDepth 100000 in
theorem ctX7_laysCosts (B fu : Nat) (σ : Mem) : CtV yX7_laysCosts cX7_laysCosts 2 none rmX7_laysCosts B [rv B 328] σ (fX7_laysCosts fu σ) := by
  refine ctV_intro (own := RX7) (lv := [(0, rv B 328)]) (by decide +kernel) rfl (Nat.le_of_ble_eq_true rfl) rfl (fun X hX => ?_)
  unfold fX7_laysCosts
  refine s_iconst dX7_laysCosts_0 ?_
  refine s_istore_n (lv' := [(1, iv 0), (0, rv B 328)]) dX7_laysCosts_1 rfl (by decide) rfl ?_
  refine s_sub [1, 0] (lv' := [(0, rv B 328), (1, iv 0)]) rfl ?_
  refine fX7_laysCosts_L2_s hX _ ?_ fu 0 σ
  intro s9
  refine s_aload_n 0 dX7_laysCosts_44 rfl rfl ?_
  refine s_iconst dX7_laysCosts_45 ?_
  refine s_puti dX7_laysCosts_46 ly7 ty7 fl_X7_239 kd_328 rfl po7_36 ⟨rfl, rfl, by decide⟩ (fun s10 => ?_)
  refine s_iconst dX7_laysCosts_49 ?_
  refine s_istore_n (lv' := [(1, iv 0), (0, rv B 328)]) dX7_laysCosts_50 rfl (by decide) rfl ?_
  refine s_sub [1, 0] (lv' := [(0, rv B 328), (1, iv 0)]) rfl ?_
  refine fX7_laysCosts_L51_s hX _ ?_ fu 0 s10
  intro s15
  exact s_vret hX dX7_laysCosts_63
abbrev rmX7_costed : Room := { frames := 0, cells := 0, slots := 0, locals := 0 }
abbrev SX7_costed (B : Nat) (X : Ctx) := Sim cX7_costed RX7 3 rmX7_costed B X
set_option maxHeartbeats 4000000 in
set_option maxRecDepth 100000 in
theorem fX7_costed_L4_s {B fu : Nat} {X : Ctx} (hX : CxI .int B X) (k35 : Int → Mem → PR) (hk35 : ∀ (x3 : Int) (s5 : Mem), SX7_costed B X (k35 x3 s5) s5 35 [(1, iv x3)] []) : ∀ (n : Nat) (x1 : Int) (x2 : Int) (s4 : Mem), SX7_costed B X (fX7_costed_L4 fu k35 n x1 x2 s4) s4 4 [(0, rv B 328), (1, iv x1), (2, iv x2)] [] := by
  intro n
  induction n with
  | zero => intro _ _ _; exact s_none
  | succ n ih =>
    intro x1 x2 s1
    rw [fX7_costed_L4]
    refine s_iload_n 2 dX7_costed_4 rfl rfl ?_
    refine s_bipush dX7_costed_5 (by decide) ?_
    refine s_icmp_ge (tgt := 35) dX7_costed_7 (by decide) ?_ ?_
    · exact s_sub [1] rfl (hk35 x1 s1)
    · refine s_iload_n 1 dX7_costed_10 rfl rfl ?_
      refine s_aload_n 0 dX7_costed_11 rfl rfl ?_
      refine s_getr (n := 17) (k' := 346) dX7_costed_12 ly7 fl_X7_68 kd_328 rfl rfl rfl ?_
      refine s_iload_n 2 dX7_costed_15 rfl rfl ?_
      refine s_lald 10 dX7_costed_16 kd_346 (by decide) (fun x4 => ?_)
      refine s_lconst (x := 0) dX7_costed_17 (by decide) ?_
      refine s_jn (fun (j1 : Int → Mem → PR) => ∀ (x5 : Int) (s3 : Mem), SX7_costed B X (j1 x5 s3) s3 27 [(0, rv B 328), (2, iv x2)] [iv x5, iv x1]) ?_ (fun j1 hj1 => ?_)
      · intro x5 s2
        refine s_iadd dX7_costed_27 ?_
        refine s_lti (fun x6 => ?_)
        refine s_istore_n (lv' := [(1, iv x6), (0, rv B 328), (2, iv x2)]) dX7_costed_28 rfl (by decide) rfl ?_
        refine s_iinc (lv' := [(2, iv (x2 + 1)), (1, iv x6), (0, rv B 328)]) 2 dX7_costed_29 rfl (by decide) rfl ?_
        refine s_goto (tgt := 4) dX7_costed_32 (by decide) ?_
        exact s_sub [2, 1, 0] rfl (ih x6 (x2 + 1) s2)
      · refine s_lif_lt (tgt := 26) dX7_costed_18 dX7_costed_19 (by decide) ?_ ?_
        · refine s_iconst dX7_costed_26 ?_
          exact s_sub [0, 2] rfl (hj1 0 s1)
        · refine s_iconst dX7_costed_22 ?_
          refine s_goto (tgt := 27) dX7_costed_23 (by decide) ?_
          exact s_sub [0, 2] rfl (hj1 1 s1)
set_option maxHeartbeats 4000000 in
set_option maxRecDepth 100000 in
theorem ctX7_costed (B fu : Nat) (σ : Mem) : CtI yX7_costed cX7_costed 3 (some .int) rmX7_costed B [rv B 328] σ (fX7_costed fu σ) := by
  refine ctI_intro (own := RX7) (lv := [(0, rv B 328)]) (by decide +kernel) rfl (Nat.le_of_ble_eq_true rfl) rfl (fun X hX => ?_)
  unfold fX7_costed
  refine s_iconst dX7_costed_0 ?_
  refine s_istore_n (lv' := [(1, iv 0), (0, rv B 328)]) dX7_costed_1 rfl (by decide) rfl ?_
  refine s_iconst dX7_costed_2 ?_
  refine s_istore_n (lv' := [(2, iv 0), (1, iv 0), (0, rv B 328)]) dX7_costed_3 rfl (by decide) rfl ?_
  refine s_sub [2, 1, 0] (lv' := [(0, rv B 328), (1, iv 0), (2, iv 0)]) rfl ?_
  refine fX7_costed_L4_s hX _ ?_ fu 0 0 σ
  intro x7 s6
  refine s_iload_n 0 dX7_costed_35 rfl rfl ?_
  exact s_iret hX dX7_costed_36
abbrev rmX7_cost : Room := { frames := 8, cells := 0, slots := 0, locals := 183 }
abbrev SX7_cost (B : Nat) (X : Ctx) := Sim cX7_cost RX7 2 rmX7_cost B X
set_option maxHeartbeats 4000000 in
set_option maxRecDepth 100000 in
theorem ctX7_cost (B fu : Nat) (a0 : Int) (σ : Mem) : CtI yX7_cost cX7_cost 2 (some .int) rmX7_cost B [rv B 328, iv a0] σ (fX7_cost fu a0 σ) := by
  refine ctI_intro (own := RX7) (lv := [(0, rv B 328), (1, iv a0)]) (by decide +kernel) rfl (Nat.le_of_ble_eq_true rfl) rfl (fun X hX => ?_)
  unfold fX7_cost
  refine s_aload_n 0 dX7_cost_0 rfl rfl ?_
  refine s_iconst dX7_cost_1 ?_
  refine s_puti dX7_cost_2 ly7 ty7 fl_X7_116 kd_328 rfl po7_20 ⟨rfl, rfl, by decide⟩ (fun s1 => ?_)
  refine s_iload_n 1 dX7_cost_5 rfl rfl ?_
  refine s_Si (rest := []) dX7_cost_6 lk_X7_162 meX7_isStop (ctX7_isStop B fu a0 s1) rfl rfl ⟨rfl, rfl, by decide, by decide⟩ (Nat.le_of_ble_eq_true rfl) (fun x1 s2 => ?_)
  refine s_if_ne (tgt := 14) dX7_cost_9 (by decide) ?_ ?_
  · refine s_aload_n 0 dX7_cost_14 rfl rfl ?_
    refine s_Vv (rest := []) dX7_cost_15 lk_X7_246 meX7_laysCosts (ctX7_laysCosts B fu s2) kd_328 ⟨rfl, by decide⟩ rfl rfl ⟨rfl, rfl, by decide, by decide⟩ (Nat.le_of_ble_eq_true rfl) (fun _ s3 => ?_)
    refine s_aload_n 0 dX7_cost_18 rfl rfl ?_
    refine s_getr (n := 17) (k' := 346) dX7_cost_19 ly7 fl_X7_68 kd_328 rfl rfl rfl ?_
    refine s_iload_n 1 dX7_cost_22 rfl rfl ?_
    refine s_lald 10 dX7_cost_23 kd_346 (by decide) (fun x2 => ?_)
    refine s_lconst (x := 0) dX7_cost_24 (by decide) ?_
    refine s_lif_ge (tgt := 32) dX7_cost_25 dX7_cost_26 (by decide) ?_ ?_
    · refine s_aload_n 0 dX7_cost_32 rfl rfl ?_
      refine s_iconst dX7_cost_33 ?_
      refine s_puti dX7_cost_34 ly7 ty7 fl_X7_119 kd_328 rfl po7_19 ⟨rfl, rfl, by decide⟩ (fun s4 => ?_)
      refine s_aload_n 0 dX7_cost_37 rfl rfl ?_
      refine s_aload_n 0 dX7_cost_38 rfl rfl ?_
      refine s_getr (n := 21) (k' := 350) dX7_cost_39 ly7 fl_X7_80 kd_328 rfl rfl rfl ?_
      refine s_iload_n 1 dX7_cost_42 rfl rfl ?_
      refine s_iald 10 dX7_cost_43 kd_350 (by decide) (fun x3 => ?_)
      refine s_i2l dX7_cost_44 ?_
      refine s_Vv (rest := []) dX7_cost_45 lk_X7_211 meX7_tell (ctX7_tell B fu (w32 x3) s4) kd_328 ⟨rfl, by decide⟩ rfl rfl ⟨rfl, rfl, by decide, by decide⟩ (Nat.le_of_ble_eq_true rfl) (fun _ s5 => ?_)
      refine s_aload_n 0 dX7_cost_48 rfl rfl ?_
      refine s_aload_n 0 dX7_cost_49 rfl rfl ?_
      refine s_getr (n := 23) (k' := 352) dX7_cost_50 ly7 fl_X7_86 kd_328 rfl rfl rfl ?_
      refine s_iload_n 1 dX7_cost_53 rfl rfl ?_
      refine s_iald 10 dX7_cost_54 kd_352 (by decide) (fun x4 => ?_)
      refine s_i2l dX7_cost_55 ?_
      refine s_Vv (rest := []) dX7_cost_56 lk_X7_211 meX7_tell (ctX7_tell B fu (w32 x4) s5) kd_328 ⟨rfl, by decide⟩ rfl rfl ⟨rfl, rfl, by decide, by decide⟩ (Nat.le_of_ble_eq_true rfl) (fun _ s6 => ?_)
      refine s_aload_n 0 dX7_cost_59 rfl rfl ?_
      refine s_getr (n := 17) (k' := 346) dX7_cost_60 ly7 fl_X7_68 kd_328 rfl rfl rfl ?_
      refine s_iload_n 1 dX7_cost_63 rfl rfl ?_
      refine s_lald 10 dX7_cost_64 kd_346 (by decide) (fun x5 => ?_)
      refine s_l2i dX7_cost_65 ?_
      exact s_iret hX dX7_cost_66
    · refine s_bipush dX7_cost_29 (by decide) ?_
      exact s_iret hX dX7_cost_31
  · refine s_iconst dX7_cost_12 ?_
    exact s_iret hX dX7_cost_13
abbrev rmX7_rounds : Room := { frames := 8, cells := 0, slots := 0, locals := 183 }
abbrev SX7_rounds (B : Nat) (X : Ctx) := Sim cX7_rounds RX7 1 rmX7_rounds B X
set_option maxHeartbeats 4000000 in
set_option maxRecDepth 100000 in
theorem ctX7_rounds (B fu : Nat) (σ : Mem) : CtI yX7_rounds cX7_rounds 1 (some .int) rmX7_rounds B [rv B 328] σ (fX7_rounds fu σ) := by
  refine ctI_intro (own := RX7) (lv := [(0, rv B 328)]) (by decide +kernel) rfl (Nat.le_of_ble_eq_true rfl) rfl (fun X hX => ?_)
  unfold fX7_rounds
  refine s_aload_n 0 dX7_rounds_0 rfl rfl ?_
  refine s_iconst dX7_rounds_1 ?_
  refine s_puti dX7_rounds_2 ly7 ty7 fl_X7_116 kd_328 rfl po7_20 ⟨rfl, rfl, by decide⟩ (fun s1 => ?_)
  refine s_aload_n 0 dX7_rounds_5 rfl rfl ?_
  refine s_Vv (rest := []) dX7_rounds_6 lk_X7_246 meX7_laysCosts (ctX7_laysCosts B fu s1) kd_328 ⟨rfl, by decide⟩ rfl rfl ⟨rfl, rfl, by decide, by decide⟩ (Nat.le_of_ble_eq_true rfl) (fun _ s2 => ?_)
  refine s_aload_n 0 dX7_rounds_9 rfl rfl ?_
  refine s_iconst dX7_rounds_10 ?_
  refine s_puti dX7_rounds_11 ly7 ty7 fl_X7_119 kd_328 rfl po7_19 ⟨rfl, rfl, by decide⟩ (fun s3 => ?_)
  refine s_aload_n 0 dX7_rounds_14 rfl rfl ?_
  refine s_aload_n 0 dX7_rounds_15 rfl rfl ?_
  refine s_Vi (rest := [rv B 328]) dX7_rounds_16 lk_X7_249 meX7_costed (ctX7_costed B fu s3) kd_328 ⟨rfl, by decide⟩ rfl rfl ⟨rfl, rfl, by decide, by decide⟩ (Nat.le_of_ble_eq_true rfl) (fun x1 s4 => ?_)
  refine s_i2l dX7_rounds_19 ?_
  refine s_Vv (rest := []) dX7_rounds_20 lk_X7_211 meX7_tell (ctX7_tell B fu (w32 x1) s4) kd_328 ⟨rfl, by decide⟩ rfl rfl ⟨rfl, rfl, by decide, by decide⟩ (Nat.le_of_ble_eq_true rfl) (fun _ s5 => ?_)
  refine s_aload_n 0 dX7_rounds_23 rfl rfl ?_
  refine s_geti dX7_rounds_24 ly7 fl_X7_239 kd_328 rfl ?_
  exact s_iret hX dX7_rounds_27
abbrev rmX7_chosen : Room := { frames := 8, cells := 0, slots := 0, locals := 183 }
abbrev SX7_chosen (B : Nat) (X : Ctx) := Sim cX7_chosen RX7 4 rmX7_chosen B X
set_option maxHeartbeats 4000000 in
set_option maxRecDepth 100000 in
theorem fX7_chosen_L27_s {B fu : Nat} {X : Ctx} (hX : CxI .int B X) (c1 : Int) (k75 : Int → Mem → PR) (hk75 : ∀ (x4 : Int) (s8 : Mem), SX7_chosen B X (k75 x4 s8) s8 75 [(2, iv x4)] []) : ∀ (n : Nat) (x2 : Int) (x3 : Int) (s7 : Mem), SX7_chosen B X (fX7_chosen_L27 fu c1 k75 n x2 x3 s7) s7 27 [(0, rv B 328), (1, iv c1), (2, iv x2), (3, iv x3)] [] := by
  intro n
  induction n with
  | zero => intro _ _ _; exact s_none
  | succ n ih =>
    intro x2 x3 s5
    rw [fX7_chosen_L27]
    refine s_iload_n 3 dX7_chosen_27 rfl rfl ?_
    refine s_aload_n 0 dX7_chosen_28 rfl rfl ?_
    refine s_getr (n := 23) (k' := 352) dX7_chosen_29 ly7 fl_X7_86 kd_328 rfl rfl rfl ?_
    refine s_iload_n 1 dX7_chosen_32 rfl rfl ?_
    refine s_iald 10 dX7_chosen_33 kd_352 (by decide) (fun x5 => ?_)
    refine s_icmp_ge (tgt := 75) dX7_chosen_34 (by decide) ?_ ?_
    · exact s_sub [2] rfl (hk75 x2 s5)
    · refine s_iload_n 2 dX7_chosen_37 rfl rfl ?_
      refine s_iconst dX7_chosen_38 ?_
      refine s_aload_n 0 dX7_chosen_39 rfl rfl ?_
      refine s_getr (n := 22) (k' := 351) dX7_chosen_40 ly7 fl_X7_83 kd_328 rfl rfl rfl ?_
      refine s_bipush dX7_chosen_43 (by decide) ?_
      refine s_iload_n 1 dX7_chosen_45 rfl rfl ?_
      refine s_imul dX7_chosen_46 ?_
      refine s_iload_n 3 dX7_chosen_47 rfl rfl ?_
      refine s_iadd dX7_chosen_48 ?_
      refine s_iald 120 dX7_chosen_49 kd_351 (by decide) (fun x6 => ?_)
      refine s_ishl dX7_chosen_50 ?_
      refine s_ior dX7_chosen_51 ?_
      refine s_lti (fun x7 => ?_)
      refine s_istore_n (lv' := [(2, iv x7), (0, rv B 328), (1, iv c1), (3, iv x3)]) dX7_chosen_52 rfl (by decide) rfl ?_
      refine s_aload_n 1 dX7_chosen_53 rfl rfl ?_
      refine s_aload_n 1 dX7_chosen_54 rfl rfl ?_
      refine s_getr (n := 22) (k' := 351) dX7_chosen_55 ly7 fl_X7_83 kd_328 rfl rfl rfl ?_
      refine s_bipush dX7_chosen_58 (by decide) ?_
      refine s_iload_n 2 dX7_chosen_60 rfl rfl ?_
      refine s_imul dX7_chosen_61 ?_
      refine s_iload_n 3 dX7_chosen_62 rfl rfl ?_
      refine s_iadd dX7_chosen_63 ?_
      refine s_iald 120 dX7_chosen_64 kd_351 (by decide) (fun x8 => ?_)
      refine s_i2l dX7_chosen_65 ?_
      refine s_Vv (rest := []) dX7_chosen_66 lk_X7_211 meX7_tell (ctX7_tell B fu (w32 x8) s5) kd_328 ⟨rfl, by decide⟩ rfl rfl ⟨rfl, rfl, by decide, by decide⟩ (Nat.le_of_ble_eq_true rfl) (fun _ s6 => ?_)
      refine s_iinc (lv' := [(3, iv (x3 + 1)), (2, iv x7), (0, rv B 328), (1, iv c1)]) 3 dX7_chosen_69 rfl (by decide) rfl ?_
      refine s_goto (tgt := 27) dX7_chosen_72 (by decide) ?_
      exact s_sub [2, 3, 1, 0] rfl (ih x7 (x3 + 1) s6)
set_option maxHeartbeats 4000000 in
set_option maxRecDepth 100000 in
theorem ctX7_chosen (B fu : Nat) (a0 : Int) (σ : Mem) : CtI yX7_chosen cX7_chosen 4 (some .int) rmX7_chosen B [rv B 328, iv a0] σ (fX7_chosen fu a0 σ) := by
  refine ctI_intro (own := RX7) (lv := [(0, rv B 328), (1, iv a0)]) (by decide +kernel) rfl (Nat.le_of_ble_eq_true rfl) rfl (fun X hX => ?_)
  unfold fX7_chosen
  refine s_aload_n 0 dX7_chosen_0 rfl rfl ?_
  refine s_iconst dX7_chosen_1 ?_
  refine s_puti dX7_chosen_2 ly7 ty7 fl_X7_116 kd_328 rfl po7_20 ⟨rfl, rfl, by decide⟩ (fun s1 => ?_)
  refine s_iload_n 1 dX7_chosen_5 rfl rfl ?_
  refine s_Si (rest := []) dX7_chosen_6 lk_X7_162 meX7_isStop (ctX7_isStop B fu a0 s1) rfl rfl ⟨rfl, rfl, by decide, by decide⟩ (Nat.le_of_ble_eq_true rfl) (fun x1 s2 => ?_)
  refine s_if_ne (tgt := 14) dX7_chosen_9 (by decide) ?_ ?_
  · refine s_aload_n 0 dX7_chosen_14 rfl rfl ?_
    refine s_Vv (rest := []) dX7_chosen_15 lk_X7_246 meX7_laysCosts (ctX7_laysCosts B fu s2) kd_328 ⟨rfl, by decide⟩ rfl rfl ⟨rfl, rfl, by decide, by decide⟩ (Nat.le_of_ble_eq_true rfl) (fun _ s3 => ?_)
    refine s_iconst dX7_chosen_18 ?_
    refine s_istore_n (lv' := [(2, iv 0), (0, rv B 328), (1, iv a0)]) dX7_chosen_19 rfl (by decide) rfl ?_
    refine s_aload_n 1 dX7_chosen_20 rfl rfl ?_
    refine s_iconst dX7_chosen_21 ?_
    refine s_puti dX7_chosen_22 ly7 ty7 fl_X7_119 kd_328 rfl po7_19 ⟨rfl, rfl, by decide⟩ (fun s4 => ?_)
    refine s_iconst dX7_chosen_25 ?_
    refine s_istore_n (lv' := [(3, iv 0), (2, iv 0), (0, rv B 328), (1, iv a0)]) dX7_chosen_26 rfl (by decide) rfl ?_
    refine s_sub [2, 3, 1, 0] (lv' := [(0, rv B 328), (1, iv a0), (2, iv 0), (3, iv 0)]) rfl ?_
    refine fX7_chosen_L27_s hX a0 _ ?_ fu 0 0 s4
    intro x9 s9
    refine s_iload_n 0 dX7_chosen_75 rfl rfl ?_
    exact s_iret hX dX7_chosen_76
  · refine s_iconst dX7_chosen_12 ?_
    exact s_iret hX dX7_chosen_13
