def R_law : String := "LineChoiceLaw"
def lw_P (b : Addr) (xs : List Int32) (args : Array Value) (s : State) : Prop := args = #[.ref b] ∧ s.IntsAt b xs ∧ xs.length ≤ 2048 ∧ (Jvm.Cond.and given_1 narrow_1).before args s = true
def lw_Q (_ : Array Value) (s : State) (o : Outcome) (t : State) : Prop := o = .returned (some (.int 1)) ∧ Framed s o t [] 601024 7293034
def lw_Z (below : List Frame) (a : Array Value) (s : State) : State → Prop := fun t => ∃ o, t.status = .running ∧ Ended t below o ∧ lw_Q a s o t
/-- the law's own end, with 1 on the stack, nothing written that was there before, its room as the claim has it -/
theorem lw_ret {p : Program} {l : Launch} {e : Env} {s : State} {m : MethodId} {below : List Frame} {meth : Method} {c : Code} {b : Nat} (hx : p.tables.exec = Jvm.exec) (hb : c.code = code) (hr : meth.sig.returnType = ret) (hlocks : meth.locks = false) {pc : Nat} {H : Heap} {ls : Array Slot} (hdg : decode code pc = .ok (.ireturn, 1)) : W p l e room_1 s m #[Value.ref b] below meth c H [] 601024 7293034 (lw_Z below #[Value.ref b] s) (F0 m pc ls [.int 1]) := by
  intro T hT X
  obtain ⟨fs, hret, hrun, hended, hW, hframe⟩ := X.leave (v := some (.int 1)) (hlocks := hlocks) (fun h => by rw [hr] at h; cases h)
  have hmeth' : T.vm.method? m = some meth := X.method'
  refine ⟨T.setFrames fs, ?_, .returned (some (.int 1)), hrun, hended, rfl, ⟨_, rfl⟩, hW, hframe⟩
  jvm_step X.here [X.here.top, hx, hb, hdg, hmeth', hr, ret, narrow_b1]
  (try refine ⟨rfl, ?_⟩); (try refine ⟨rfl, ?_⟩)
  first | (intro acts; rw [hret _ acts rfl rfl rfl]) | rw [hret _ _ rfl rfl rfl]
  exact Steps.refl _
/-- what holds at the law's entry: the machine, the code, the tables' words (any of lw_tbl by 'hts w (by decide +kernel)'), the script of L ints xs at the cell b, what the Statement gives of the start (any of its parts by flat_of_before) -/
def lw_At (p : Program) (s : State) (m : MethodId) (meth : Method) (c : Code) (b L : Nat) (xs : Nat → Int32) : Prop :=
  p.tables.exec = Jvm.exec ∧ c.code = code ∧ meth.sig.returnType = ret ∧ c.maxLocals = 8 ∧ s.vm.findClass R_law = some m.cls ∧ (∀ w ∈ lw_tbl, w.before #[Value.ref b] s = true) ∧ va_X b L xs s s.heap ∧ b < s.heap.size ∧ meth.locks = false ∧ (Jvm.Cond.and given_1 narrow_1).before #[Value.ref b] s = true
/-! ===== the law's loop ===== -/
def rdX (L : Nat) (xs : Nat → Int32) (i : Int) (c : Int → PR) : PR := if 0 ≤ w32 i ∧ w32 i < L then c (xs (w32 i).toNat).toInt else none
abbrev XLaw (p : Program) (l : Launch) (e : Env) (s : State) (m : MethodId) (b : Nat) (below : List Frame) (meth : Method) (c : Code) (D : va_G) (ca : Nat → ClassId) (cs sl : Nat) : Ctx := (p, l, e, s, m, #[Value.ref b], below, meth, c, D, ca, cs, sl, fun _ _ => lw_Z below #[Value.ref b] s)
section LAWR
variable {own : String} {nL : Nat} {R : Room} {B : Nat} {cc : ByteArray} {q : PR} {σ : Mem} {pc : Nat} {lv : List (Nat × Value)} {st : List Value} {p : Program} {l : Launch} {e : Env} {s : State} {m : MethodId} {b : Nat} {below : List Frame} {meth : Method} {c : Code} {D : va_G} {ca : Nat → ClassId} {cs sl L : Nat} {xs : Nat → Int32}
theorem s_slen (hX : va_X b L xs s s.heap) (hbB : b < B) (hB : B = s.heap.size) (hd : decode cc pc = .ok (.arraylength, 1)) (k : Sim cc own nL R B (XLaw p l e s m b below meth c D ca cs sl) q σ (pc + 1) lv (iv (L : Int) :: st)) : Sim cc own nL R B (XLaw p l e s m b below meth c D ca cs sl) q σ pc lv (.ref b :: st) := by
  intro r σ' hq ok H locs ls hF hS hl
  refine va_slen ok.1 ok.2.1 hX (by omega) (show ¬ B ≤ b by omega) hS hd ?_
  rw [show Int32.ofNat L = Int32.ofInt (L : Int) from (Int32.ofInt_eq_ofNat).symm]
  exact k r σ' hq ok H locs ls hF hS hl
theorem s_sld (hX : va_X b L xs s s.heap) (hbB : b < B) (hB : B = s.heap.size) {i : Int} {g : Int → PR} (hd : decode cc pc = .ok (.iaload, 1)) (k : ∀ v, Sim cc own nL R B (XLaw p l e s m b below meth c D ca cs sl) (g v) σ (pc + 1) lv (iv v :: st)) : Sim cc own nL R B (XLaw p l e s m b below meth c D ca cs sl) (rdX L xs i g) σ pc lv (iv i :: .ref b :: st) := by
  intro r σ' hq ok H locs ls hF hS hl
  unfold rdX at hq
  by_cases h : 0 ≤ w32 i ∧ w32 i < L
  · rw [if_pos h] at hq
    refine va_sld ok.1 ok.2.1 hX (by omega) (show ¬ B ≤ b by omega) hS (in_of32 h) hd ?_
    have k := k _ r σ' hq ok H locs ls hF hS hl
    rw [iv_toInt] at k
    exact k
  · rw [if_neg h] at hq; cases hq
theorem s_wide {cs2 sl2 : Nat} (h1 : cs ≤ cs2) (h2 : sl ≤ sl2) (k : Sim cc own nL room_1 B (XLaw p l e s m b below meth c D ca cs2 sl2) q σ pc lv st) (h3 : cs2 ≤ 601024 := by omega) (h4 : sl2 ≤ 7293034 := by omega) : Sim cc own nL room_1 B (XLaw p l e s m b below meth c D ca cs sl) q σ pc lv st := by
  intro r σ' hq ok H locs ls hF hS hl
  exact W.widen h1 h2 (k r σ' hq ⟨ok.1, ok.2.1, ok.2.2.1, ok.2.2.2.1, ok.2.2.2.2.1, ok.2.2.2.2.2.1, ok.2.2.2.2.2.2.1, h3, h4⟩ H locs ls hF hS hl)
theorem lr_code : Cond.codeWith yL_row cL_row 4 (some .int) [(0, 8, 11, 13)] ∈ TB := tbm (i := 979) (by decide +kernel) (by decide +kernel)
theorem lr_st : Cond.static yL_row ∈ TB := tbm (i := 978) (by decide +kernel) (by decide +kernel)
theorem lr_in : Cond.initialized yL_row.cls ∈ TB := tbm (i := 70) (by decide +kernel) (by decide +kernel)
theorem lr_len : ∀ sig, parseMethodDescriptor yL_row.desc = some sig → 3 = sig.parameters.length := by
  intro sig h
  have h2 : (parseMethodDescriptor yL_row.desc).map (fun d => d.parameters.length) = some 3 := by decide +kernel
  rw [h] at h2
  exact (Option.some.inj h2).symm
theorem wsLR_good : GoodIn TB wsLR := by
  intro w hw
  rcases List.mem_cons.mp hw with e | e
  · subst e; exact ⟨lr_code, good_of_word (tb_good _ lr_code)⟩
  · exact ⟨e, good_of_word (tb_good _ e)⟩
theorem s_lrow {fu sa idx : Nat} {i : Int} {g : Int → Mem → PR} (hl : l.stackTraces = false) (hXN : XN B sa s) (hd : decode cc pc = .ok (.invokestatic idx, 3)) (hlk : Cond.methodLink own idx yL_row ∈ TB) (hR : cs + 1 ≤ 601024 ∧ sl + 6 ≤ 7293034) (k : ∀ r σ, Sim cc own nL room_1 B (XLaw p l e s m b below meth c D ca (cs + 1) (sl + 6)) (g r σ) σ (pc + 3) lv [iv r]) : Sim cc own nL room_1 B (XLaw p l e s m b below meth c D ca cs sl) (bnd (fL_row fu i σ) g) σ pc lv [rv B 361, iv i, rv B 0] := by
  intro r σ' hq ok H locs ls hF hS hl1
  obtain ⟨r1, σ1, h1, h2⟩ := bnd_some hq
  refine vx_calli (S := Mem) (SX := Mem) (vx_runSX (As := [rv B 0, iv i, rv B 361]) (rest := []) (hh := [(0, 8, 11, 13)]) (bytes := cL_row) (maxL := 4) (ret := some .int) (n := 3) (R := room_1) ⟨ok.1, ok.2.1, ok.2.2.1, ok.2.2.2.1, ok.2.2.2.2.1⟩ (ctL_row l hl D ca B fu sa σ i r1 σ1 h1)
    ⟨⟨rfl, rfl, by decide, by decide, pay_in ok.2.2.2.2.1 wsLR_good, List.mem_cons_self⟩, ok.2.2.2.2.1 _ lr_code, ok.2.2.2.2.1 _ lr_in, ⟨by decide +kernel, by decide +kernel⟩, lr_len, ok.2.2.2.2.1 _ hlk, ok.2.2.2.2.1 _ lr_st⟩
    ⟨pcX_blind, fun U hU hW => ⟨rfl, by rw [hU]; exact hF, va_K.moved hW.alike ok.2.2.2.2.2.1, Nst.warm hW ok.2.2.2.2.2.2.1, XN.at hW hU hS hXN⟩⟩ rfl rfl hl1.1 rfl (lv_room (Nat.le_of_ble_eq_true rfl)) hd hR) hS (fun _ _ h => h) (fun _ h => h) (fun _ _ h => h) ?_ ?_
  · intro E ce q9 u t H1 locs1 ht hvm hp
    exact hp.elim
  · intro x u t H1 locs1 ht hvm hp hB hz1 hk1 hS1
    obtain ⟨rfl, rfl⟩ := hp
    exact k r1 u r σ' h2 ⟨ok.1, ok.2.1, ok.2.2.1, ok.2.2.2.1, ok.2.2.2.2.1, ok.2.2.2.2.2.1, ok.2.2.2.2.2.2.1, hR.1, hR.2⟩ H1 locs1 ls (by rw [← ht]; exact hB) hS1 hl1
end LAWR
def fL_law_L (fu L : Nat) (xs : Nat → Int32) (k1844 : Mem → PR) : Nat → Int → Mem → PR
  | 0, _, _ => none
  | n + 1, x0, s0 => if w32 (((L : Int)) - 4) < w32 x0 then k1844 s0 else rdX L xs x0 (fun x1 => jn (fun s1 => fL_law_L fu L xs k1844 n (x0 + 4) s1) (fun (j1 : Mem → PR) => if w32 (and32 x1 63) < 0 ∨ 52 < w32 (and32 x1 63) then j1 s0 else if w32 (and32 x1 63) = 0 then rdX L xs (x0 + 1) (fun x2 => bnd (fX6_sign fu x2 s0) (fun x3 s2 => rdX L xs (x0 + 1) (fun x4 => bnd (fX7_sign fu x4 s2) (fun x5 s3 => if w32 x3 = w32 x5 then j1 s3 else none)))) else if w32 (and32 x1 63) = 1 then rdX L xs (x0 + 1) (fun x6 => bnd (fX6_end fu x6 s0) (fun x7 s4 => rdX L xs (x0 + 1) (fun x8 => bnd (fX7_end fu x8 s4) (fun x9 s5 => if w32 x7 = w32 x9 then j1 s5 else none)))) else if w32 (and32 x1 63) = 2 then bnd (fX6_net fu s0) (fun x10 s6 => bnd (fX7_net fu s6) (fun x11 s7 => if w32 x10 = w32 x11 then j1 s7 else none)) else if w32 (and32 x1 63) = 3 then bnd (fX6_adds fu s0) (fun x12 s8 => bnd (fX7_adds fu s8) (fun x13 s9 => if w32 x12 = w32 x13 then j1 s9 else none)) else if w32 (and32 x1 63) = 4 then rdX L xs (x0 + 1) (fun x14 => bnd (fX6_drops fu x14 s0) (fun x15 s10 => rdX L xs (x0 + 1) (fun x16 => bnd (fX7_drops fu x16 s10) (fun x17 s11 => if w32 x15 = w32 x17 then j1 s11 else none)))) else if w32 (and32 x1 63) = 5 then rdX L xs (x0 + 1) (fun x18 => bnd (fX6_waiting fu x18 s0) (fun x19 s12 => rdX L xs (x0 + 1) (fun x20 => bnd (fX7_waiting fu x20 s12) (fun x21 s13 => if w32 x19 = w32 x21 then j1 s13 else none)))) else if w32 (and32 x1 63) = 6 then rdX L xs (x0 + 1) (fun x22 => bnd (fX6_goal fu x22 s0) (fun x23 s14 => rdX L xs (x0 + 1) (fun x24 => bnd (fX7_goal fu x24 s14) (fun x25 s15 => if w32 x23 = w32 x25 then j1 s15 else none)))) else if w32 (and32 x1 63) = 7 then rdX L xs (x0 + 1) (fun x26 => rdX L xs (x0 + 2) (fun x27 => bnd (fX6_riders fu x26 x27 s0) (fun x28 s16 => rdX L xs (x0 + 1) (fun x29 => rdX L xs (x0 + 2) (fun x30 => bnd (fX7_riders fu x29 x30 s16) (fun x31 s17 => if w32 x28 = w32 x31 then j1 s17 else none)))))) else if w32 (and32 x1 63) = 8 then rdX L xs (x0 + 1) (fun x32 => rdX L xs (x0 + 2) (fun x33 => jn (fun x34 s18 => bnd (fX6_out fu x32 x34 s18) (fun x35 s19 => rdX L xs (x0 + 1) (fun x36 => rdX L xs (x0 + 2) (fun x37 => jn (fun x38 s20 => bnd (fX7_out fu x36 x38 s20) (fun x39 s21 => if w32 x35 = w32 x39 then j1 s21 else none)) (fun (j3 : Int → Mem → PR) => if w32 x37 = 0 then j3 0 s19 else j3 1 s19))))) (fun (j2 : Int → Mem → PR) => if w32 x33 = 0 then j2 0 s0 else j2 1 s0))) else if w32 (and32 x1 63) = 9 then rdX L xs (x0 + 1) (fun x40 => rdX L xs (x0 + 2) (fun x41 => jn (fun x42 s24 => bnd (fX6_closes fu x40 x42 s24) (fun x43 s25 => rdX L xs (x0 + 1) (fun x44 => rdX L xs (x0 + 2) (fun x45 => jn (fun x46 s26 => bnd (fX7_closes fu x44 x46 s26) (fun x47 s27 => if w32 x43 = w32 x47 then j1 s27 else none)) (fun (j5 : Int → Mem → PR) => if w32 x45 = 0 then j5 0 s25 else j5 1 s25))))) (fun (j4 : Int → Mem → PR) => if w32 x41 = 0 then j4 0 s0 else j4 1 s0))) else if w32 (and32 x1 63) = 10 then rdX L xs (x0 + 1) (fun x48 => rdX L xs (x0 + 2) (fun x49 => bnd (fX6_often fu x48 x49 s0) (fun x50 s30 => rdX L xs (x0 + 1) (fun x51 => rdX L xs (x0 + 2) (fun x52 => bnd (fX7_often fu x51 x52 s30) (fun x53 s31 => if w32 x50 = w32 x53 then j1 s31 else none)))))) else if w32 (and32 x1 63) = 11 then rdX L xs (x0 + 1) (fun x54 => rdX L xs (x0 + 2) (fun x55 => bnd (fX6_line fu x54 x55 s0) (fun x56 s32 => rdX L xs (x0 + 1) (fun x57 => rdX L xs (x0 + 2) (fun x58 => bnd (fX7_line fu x57 x58 s32) (fun x59 s33 => if w32 x56 = w32 x59 then j1 s33 else none)))))) else if w32 (and32 x1 63) = 12 then rdX L xs (x0 + 1) (fun x60 => rdX L xs (x0 + 2) (fun x61 => bnd (fX6_stop fu x60 x61 s0) (fun x62 s34 => rdX L xs (x0 + 1) (fun x63 => rdX L xs (x0 + 2) (fun x64 => bnd (fX7_stop fu x63 x64 s34) (fun x65 s35 => if w32 x62 = w32 x65 then j1 s35 else none)))))) else if w32 (and32 x1 63) = 13 then rdX L xs (x0 + 1) (fun x66 => bnd (fX6_cost fu x66 s0) (fun x67 s36 => rdX L xs (x0 + 1) (fun x68 => bnd (fX7_cost fu x68 s36) (fun x69 s37 => if w32 x67 = w32 x69 then j1 s37 else none)))) else if w32 (and32 x1 63) = 14 then bnd (fX6_rounds fu s0) (fun x70 s38 => bnd (fX7_rounds fu s38) (fun x71 s39 => if w32 x70 = w32 x71 then j1 s39 else none)) else if w32 (and32 x1 63) = 15 then rdX L xs (x0 + 1) (fun x72 => bnd (fX6_chosen fu x72 s0) (fun x73 s40 => rdX L xs (x0 + 1) (fun x74 => bnd (fX7_chosen fu x74 s40) (fun x75 s41 => if w32 x73 = w32 x75 then j1 s41 else none)))) else if w32 (and32 x1 63) = 16 then rdX L xs (x0 + 1) (fun x76 => rdX L xs (x0 + 2) (fun x77 => bnd (fX6_boarding fu x76 x77 s0) (fun x78 s42 => rdX L xs (x0 + 1) (fun x79 => rdX L xs (x0 + 2) (fun x80 => bnd (fX7_boarding fu x79 x80 s42) (fun x81 s43 => if w32 x78 = w32 x81 then j1 s43 else none)))))) else if w32 (and32 x1 63) = 17 then rdX L xs (x0 + 1) (fun x82 => rdX L xs (x0 + 2) (fun x83 => bnd (fX6_aboard fu x82 x83 s0) (fun x84 s44 => rdX L xs (x0 + 1) (fun x85 => rdX L xs (x0 + 2) (fun x86 => bnd (fX7_aboard fu x85 x86 s44) (fun x87 s45 => if w32 x84 = w32 x87 then j1 s45 else none)))))) else if w32 (and32 x1 63) = 18 then bnd (fX6_worst fu s0) (fun x88 s46 => bnd (fX7_worst fu s46) (fun x89 s47 => if w32 x88 = w32 x89 then j1 s47 else none)) else if w32 (and32 x1 63) = 19 then rdX L xs (x0 + 1) (fun x90 => bnd (fX6_wait fu x90 s0) (fun x91 s48 => rdX L xs (x0 + 1) (fun x92 => bnd (fX7_wait fu x92 s48) (fun x93 s49 => if w32 x91 = w32 x93 then j1 s49 else none)))) else if w32 (and32 x1 63) = 20 then rdX L xs (x0 + 1) (fun x94 => bnd (fX6_boards fu x94 s0) (fun x95 s50 => rdX L xs (x0 + 1) (fun x96 => bnd (fX7_boards fu x96 s50) (fun x97 s51 => if w32 x95 = w32 x97 then j1 s51 else none)))) else if w32 (and32 x1 63) = 21 then rdX L xs (x0 + 1) (fun x98 => rdX L xs (x0 + 2) (fun x99 => bnd (fX6_slack fu x98 x99 s0) (fun x100 s52 => rdX L xs (x0 + 1) (fun x101 => rdX L xs (x0 + 2) (fun x102 => bnd (fX7_slack fu x101 x102 s52) (fun x103 s53 => if w32 x100 = w32 x103 then j1 s53 else none)))))) else if w32 (and32 x1 63) = 22 then rdX L xs (x0 + 1) (fun x104 => bnd (fX6_reach fu x104 s0) (fun x105 s54 => rdX L xs (x0 + 1) (fun x106 => bnd (fX7_reach fu x106 s54) (fun x107 s55 => if w32 x105 = w32 x107 then j1 s55 else none)))) else if w32 (and32 x1 63) = 23 then rdX L xs (x0 + 1) (fun x108 => rdX L xs (x0 + 2) (fun x109 => bnd (fX6_between fu x108 x109 s0) (fun x110 s56 => rdX L xs (x0 + 1) (fun x111 => rdX L xs (x0 + 2) (fun x112 => bnd (fX7_between fu x111 x112 s56) (fun x113 s57 => if w32 x110 = w32 x113 then j1 s57 else none)))))) else if w32 (and32 x1 63) = 24 then rdX L xs (x0 + 1) (fun x114 => rdX L xs (x0 + 2) (fun x115 => bnd (fX6_load fu x114 x115 s0) (fun x116 s58 => rdX L xs (x0 + 1) (fun x117 => rdX L xs (x0 + 2) (fun x118 => bnd (fX7_load fu x117 x118 s58) (fun x119 s59 => if w32 x116 = w32 x119 then j1 s59 else none)))))) else if w32 (and32 x1 63) = 25 then rdX L xs (x0 + 1) (fun x120 => bnd (fX6_passes fu x120 s0) (fun x121 s60 => rdX L xs (x0 + 1) (fun x122 => bnd (fX7_passes fu x122 s60) (fun x123 s61 => if w32 x121 = w32 x123 then j1 s61 else none)))) else if w32 (and32 x1 63) = 26 then rdX L xs (x0 + 1) (fun x124 => bnd (fX6_ridden fu x124 s0) (fun x125 s62 => rdX L xs (x0 + 1) (fun x126 => bnd (fX7_ridden fu x126 s62) (fun x127 s63 => if w32 x125 = w32 x127 then j1 s63 else none)))) else if w32 (and32 x1 63) = 27 then rdX L xs (x0 + 1) (fun x128 => rdX L xs (x0 + 2) (fun x129 => bnd (fX6_boardings fu x128 x129 s0) (fun x130 s64 => rdX L xs (x0 + 1) (fun x131 => rdX L xs (x0 + 2) (fun x132 => bnd (fX7_boardings fu x131 x132 s64) (fun x133 s65 => if w32 x130 = w32 x133 then j1 s65 else none)))))) else if w32 (and32 x1 63) = 28 then bnd (fX6_total fu s0) (fun x134 s66 => bnd (fX7_total fu s66) (fun x135 s67 => if w64 x134 = w64 x135 then j1 s67 else none)) else if w32 (and32 x1 63) = 29 then bnd (fX6_fullest fu s0) (fun x136 s68 => bnd (fX7_fullest fu s68) (fun x137 s69 => if w32 x136 = w32 x137 then j1 s69 else none)) else if w32 (and32 x1 63) = 30 then bnd (fX6_changes fu s0) (fun x138 s70 => bnd (fX7_changes fu s70) (fun x139 s71 => if w32 x138 = w32 x139 then j1 s71 else none)) else if w32 (and32 x1 63) = 31 then rdX L xs (x0 + 1) (fun x140 => bnd (fX6_crowd fu x140 s0) (fun x141 s72 => rdX L xs (x0 + 1) (fun x142 => bnd (fX7_crowd fu x142 s72) (fun x143 s73 => if w32 x141 = w32 x143 then j1 s73 else none)))) else if w32 (and32 x1 63) = 32 then rdX L xs (x0 + 1) (fun x144 => rdX L xs (x0 + 2) (fun x145 => bnd (fX6_seats fu x144 x145 s0) (fun x146 s74 => rdX L xs (x0 + 1) (fun x147 => rdX L xs (x0 + 2) (fun x148 => bnd (fX7_seats fu x147 x148 s74) (fun x149 s75 => if w32 x146 = w32 x149 then j1 s75 else none)))))) else if w32 (and32 x1 63) = 33 then rdX L xs (x0 + 1) (fun x150 => bnd (fX6_settles fu x150 s0) (fun x151 s76 => rdX L xs (x0 + 1) (fun x152 => bnd (fX7_settles fu x152 s76) (fun x153 s77 => if w32 x151 = w32 x153 then j1 s77 else none)))) else if w32 (and32 x1 63) = 34 then rdX L xs (x0 + 1) (fun x154 => rdX L xs (x0 + 2) (fun x155 => bnd (fX6_balances fu x154 x155 s0) (fun x156 s78 => rdX L xs (x0 + 1) (fun x157 => rdX L xs (x0 + 2) (fun x158 => bnd (fX7_balances fu x157 x158 s78) (fun x159 s79 => if w32 x156 = w32 x159 then j1 s79 else none)))))) else if w32 (and32 x1 63) = 35 then rdX L xs (x0 + 1) (fun x160 => rdX L xs (x0 + 2) (fun x161 => bnd (fX6_averaged fu x160 x161 s0) (fun x162 s80 => rdX L xs (x0 + 1) (fun x163 => rdX L xs (x0 + 2) (fun x164 => bnd (fX7_averaged fu x163 x164 s80) (fun x165 s81 => if w32 x162 = w32 x165 then j1 s81 else none)))))) else if w32 (and32 x1 63) = 36 then bnd (fX6_clears fu s0) (fun x166 s82 => bnd (fX7_clears fu s82) (fun x167 s83 => if w32 x166 = w32 x167 then j1 s83 else none)) else if w32 (and32 x1 63) = 37 then rdX L xs (x0 + 1) (fun x168 => bnd (fX6_without fu x168 s0) (fun x169 s84 => rdX L xs (x0 + 1) (fun x170 => bnd (fX7_without fu x170 s84) (fun x171 s85 => if w64 x169 = w64 x171 then j1 s85 else none)))) else if w32 (and32 x1 63) = 38 then rdX L xs (x0 + 1) (fun x172 => bnd (fX6_shut fu x172 s0) (fun x173 s86 => rdX L xs (x0 + 1) (fun x174 => bnd (fX7_shut fu x174 s86) (fun x175 s87 => if w64 x173 = w64 x175 then j1 s87 else none)))) else if w32 (and32 x1 63) = 39 then rdX L xs (x0 + 1) (fun x176 => rdX L xs (x0 + 2) (fun x177 => bnd (fX6_more fu x176 x177 s0) (fun x178 s88 => rdX L xs (x0 + 1) (fun x179 => rdX L xs (x0 + 2) (fun x180 => bnd (fX7_more fu x179 x180 s88) (fun x181 s89 => if w64 x178 = w64 x181 then j1 s89 else none)))))) else if w32 (and32 x1 63) = 40 then rdX L xs (x0 + 1) (fun x182 => bnd (fX6_best fu x182 s0) (fun x183 s90 => rdX L xs (x0 + 1) (fun x184 => bnd (fX7_best fu x184 s90) (fun x185 s91 => if w32 x183 = w32 x185 then j1 s91 else none)))) else if w32 (and32 x1 63) = 41 then rdX L xs (x0 + 1) (fun x186 => bnd (fX6_towards fu x186 s0) (fun x187 s92 => rdX L xs (x0 + 1) (fun x188 => bnd (fX7_towards fu x188 s92) (fun x189 s93 => if w64 x187 = w64 x189 then j1 s93 else none)))) else if w32 (and32 x1 63) = 42 then rdX L xs (x0 + 1) (fun x190 => rdX L xs (x0 + 2) (fun x191 => rdX L xs (x0 + 3) (fun x192 => bnd (fX6_slower fu x190 x191 x192 s0) (fun x193 s94 => rdX L xs (x0 + 1) (fun x194 => rdX L xs (x0 + 2) (fun x195 => rdX L xs (x0 + 3) (fun x196 => bnd (fX7_slower fu x194 x195 x196 s94) (fun x197 s95 => if w64 x193 = w64 x197 then j1 s95 else none)))))))) else if w32 (and32 x1 63) = 43 then rdX L xs (x0 + 1) (fun x198 => rdX L xs (x0 + 2) (fun x199 => bnd (fX6_skips fu x198 x199 s0) (fun x200 s96 => rdX L xs (x0 + 1) (fun x201 => rdX L xs (x0 + 2) (fun x202 => bnd (fX7_skips fu x201 x202 s96) (fun x203 s97 => if w64 x200 = w64 x203 then j1 s97 else none)))))) else if w32 (and32 x1 63) = 44 then rdX L xs (x0 + 1) (fun x204 => rdX L xs (x0 + 2) (fun x205 => bnd (fX6_uses fu x204 x205 s0) (fun x206 s98 => rdX L xs (x0 + 1) (fun x207 => rdX L xs (x0 + 2) (fun x208 => bnd (fX7_uses fu x207 x208 s98) (fun x209 s99 => if w32 x206 = w32 x209 then j1 s99 else none)))))) else if w32 (and32 x1 63) = 45 then bnd (fX6_centre fu s0) (fun x210 s100 => bnd (fX7_centre fu s100) (fun x211 s101 => if w32 x210 = w32 x211 then j1 s101 else none)) else if w32 (and32 x1 63) = 46 then bnd (fX6_spare fu s0) (fun x212 s102 => bnd (fX7_spare fu s102) (fun x213 s103 => if w32 x212 = w32 x213 then j1 s103 else none)) else if w32 (and32 x1 63) = 47 then rdX L xs (x0 + 1) (fun x214 => rdX L xs (x0 + 2) (fun x215 => bnd (fX6_offset fu x214 x215 s0) (fun x216 s104 => rdX L xs (x0 + 1) (fun x217 => rdX L xs (x0 + 2) (fun x218 => bnd (fX7_offset fu x217 x218 s104) (fun x219 s105 => if w32 x216 = w32 x219 then j1 s105 else none)))))) else if w32 (and32 x1 63) = 48 then rdX L xs (x0 + 1) (fun x220 => rdX L xs (x0 + 2) (fun x221 => rdX L xs (x0 + 3) (fun x222 => bnd (fX6_comes fu x220 x221 x222 s0) (fun x223 s106 => rdX L xs (x0 + 1) (fun x224 => rdX L xs (x0 + 2) (fun x225 => rdX L xs (x0 + 3) (fun x226 => bnd (fX7_comes fu x224 x225 x226 s106) (fun x227 s107 => if w32 x223 = w32 x227 then j1 s107 else none)))))))) else if w32 (and32 x1 63) = 49 then rdX L xs (x0 + 1) (fun x228 => rdX L xs (x0 + 2) (fun x229 => bnd (fX6_journey fu x228 x229 s0) (fun x230 s108 => rdX L xs (x0 + 1) (fun x231 => rdX L xs (x0 + 2) (fun x232 => bnd (fX7_journey fu x231 x232 s108) (fun x233 s109 => if w32 x230 = w32 x233 then j1 s109 else none)))))) else if w32 (and32 x1 63) = 50 then rdX L xs (x0 + 1) (fun x234 => rdX L xs (x0 + 2) (fun x235 => bnd (fX6_usual fu x234 x235 s0) (fun x236 s110 => rdX L xs (x0 + 1) (fun x237 => rdX L xs (x0 + 2) (fun x238 => bnd (fX7_usual fu x237 x238 s110) (fun x239 s111 => if w32 x236 = w32 x239 then j1 s111 else none)))))) else if w32 (and32 x1 63) = 51 then rdX L xs (x0 + 1) (fun x240 => bnd (fX6_count fu x240 s0) (fun x241 s112 => rdX L xs (x0 + 1) (fun x242 => bnd (fX7_count fu x242 s112) (fun x243 s113 => if w32 x241 = w32 x243 then j1 s113 else none)))) else if w32 (and32 x1 63) = 52 then rdX L xs (x0 + 1) (fun x244 => bnd (fL_row fu x244 s0) (fun x245 s114 => rdX L xs (x0 + 1) (fun x246 => bnd (fX7_row fu x246 s114) (fun x247 s115 => bnd (fX7_thrown fu s115) (fun x248 s116 => if w32 x248 = w32 x245 then jn (fun s117 => j1 s117) (fun (j6 : Mem → PR) => if w32 x245 ≠ 0 then j6 s116 else rdI s116 361 1 0 (fun x249 => if w64 x249 = w64 x247 then j6 s116 else none)) else none))))) else none))
theorem lk_L_19 : Cond.methodLink RL 19 yX6_sign ∈ TB := tbm (i := 379) (by decide +kernel) (by decide +kernel)
theorem lk_L_23 : Cond.methodLink RL 23 yX7_sign ∈ TB := tbm (i := 1212) (by decide +kernel) (by decide +kernel)
theorem lk_L_24 : Cond.methodLink RL 24 yX6_end ∈ TB := tbm (i := 387) (by decide +kernel) (by decide +kernel)
theorem lk_L_28 : Cond.methodLink RL 28 yX7_end ∈ TB := tbm (i := 1216) (by decide +kernel) (by decide +kernel)
theorem lk_L_29 : Cond.methodLink RL 29 yX6_net ∈ TB := tbm (i := 391) (by decide +kernel) (by decide +kernel)
theorem lk_L_33 : Cond.methodLink RL 33 yX7_net ∈ TB := tbm (i := 1223) (by decide +kernel) (by decide +kernel)
theorem lk_L_34 : Cond.methodLink RL 34 yX6_adds ∈ TB := tbm (i := 469) (by decide +kernel) (by decide +kernel)
theorem lk_L_37 : Cond.methodLink RL 37 yX7_adds ∈ TB := tbm (i := 1272) (by decide +kernel) (by decide +kernel)
theorem lk_L_38 : Cond.methodLink RL 38 yX6_drops ∈ TB := tbm (i := 481) (by decide +kernel) (by decide +kernel)
theorem lk_L_41 : Cond.methodLink RL 41 yX7_drops ∈ TB := tbm (i := 1276) (by decide +kernel) (by decide +kernel)
theorem lk_L_42 : Cond.methodLink RL 42 yX6_waiting ∈ TB := tbm (i := 493) (by decide +kernel) (by decide +kernel)
theorem lk_L_45 : Cond.methodLink RL 45 yX7_waiting ∈ TB := tbm (i := 1284) (by decide +kernel) (by decide +kernel)
theorem lk_L_46 : Cond.methodLink RL 46 yX6_goal ∈ TB := tbm (i := 497) (by decide +kernel) (by decide +kernel)
theorem lk_L_49 : Cond.methodLink RL 49 yX7_goal ∈ TB := tbm (i := 1289) (by decide +kernel) (by decide +kernel)
theorem lk_L_50 : Cond.methodLink RL 50 yX6_riders ∈ TB := tbm (i := 504) (by decide +kernel) (by decide +kernel)
theorem lk_L_54 : Cond.methodLink RL 54 yX7_riders ∈ TB := tbm (i := 1293) (by decide +kernel) (by decide +kernel)
theorem lk_L_55 : Cond.methodLink RL 55 yX6_out ∈ TB := tbm (i := 508) (by decide +kernel) (by decide +kernel)
theorem lk_L_59 : Cond.methodLink RL 59 yX7_out ∈ TB := tbm (i := 1298) (by decide +kernel) (by decide +kernel)
theorem lk_L_60 : Cond.methodLink RL 60 yX6_closes ∈ TB := tbm (i := 525) (by decide +kernel) (by decide +kernel)
theorem lk_L_63 : Cond.methodLink RL 63 yX7_closes ∈ TB := tbm (i := 1306) (by decide +kernel) (by decide +kernel)
theorem lk_L_64 : Cond.methodLink RL 64 yX6_often ∈ TB := tbm (i := 533) (by decide +kernel) (by decide +kernel)
theorem lk_L_67 : Cond.methodLink RL 67 yX7_often ∈ TB := tbm (i := 1310) (by decide +kernel) (by decide +kernel)
theorem lk_L_68 : Cond.methodLink RL 68 yX6_line ∈ TB := tbm (i := 537) (by decide +kernel) (by decide +kernel)
theorem lk_L_71 : Cond.methodLink RL 71 yX7_line ∈ TB := tbm (i := 1315) (by decide +kernel) (by decide +kernel)
theorem lk_L_72 : Cond.methodLink RL 72 yX6_stop ∈ TB := tbm (i := 542) (by decide +kernel) (by decide +kernel)
theorem lk_L_75 : Cond.methodLink RL 75 yX7_stop ∈ TB := tbm (i := 1319) (by decide +kernel) (by decide +kernel)
theorem lk_L_76 : Cond.methodLink RL 76 yX6_cost ∈ TB := tbm (i := 567) (by decide +kernel) (by decide +kernel)
theorem lk_L_79 : Cond.methodLink RL 79 yX7_cost ∈ TB := tbm (i := 1331) (by decide +kernel) (by decide +kernel)
theorem lk_L_80 : Cond.methodLink RL 80 yX6_rounds ∈ TB := tbm (i := 617) (by decide +kernel) (by decide +kernel)
theorem lk_L_83 : Cond.methodLink RL 83 yX7_rounds ∈ TB := tbm (i := 1372) (by decide +kernel) (by decide +kernel)
theorem lk_L_84 : Cond.methodLink RL 84 yX6_chosen ∈ TB := tbm (i := 630) (by decide +kernel) (by decide +kernel)
theorem lk_L_87 : Cond.methodLink RL 87 yX7_chosen ∈ TB := tbm (i := 1380) (by decide +kernel) (by decide +kernel)
theorem lk_L_88 : Cond.methodLink RL 88 yX6_boarding ∈ TB := tbm (i := 638) (by decide +kernel) (by decide +kernel)
theorem lk_L_91 : Cond.methodLink RL 91 yX7_boarding ∈ TB := tbm (i := 1384) (by decide +kernel) (by decide +kernel)
theorem lk_L_92 : Cond.methodLink RL 92 yX6_aboard ∈ TB := tbm (i := 656) (by decide +kernel) (by decide +kernel)
theorem lk_L_95 : Cond.methodLink RL 95 yX7_aboard ∈ TB := tbm (i := 1396) (by decide +kernel) (by decide +kernel)
theorem lk_L_96 : Cond.methodLink RL 96 yX6_worst ∈ TB := tbm (i := 660) (by decide +kernel) (by decide +kernel)
theorem lk_L_99 : Cond.methodLink RL 99 yX7_worst ∈ TB := tbm (i := 1400) (by decide +kernel) (by decide +kernel)
theorem lk_L_100 : Cond.methodLink RL 100 yX6_wait ∈ TB := tbm (i := 664) (by decide +kernel) (by decide +kernel)
theorem lk_L_103 : Cond.methodLink RL 103 yX7_wait ∈ TB := tbm (i := 1404) (by decide +kernel) (by decide +kernel)
theorem lk_L_104 : Cond.methodLink RL 104 yX6_boards ∈ TB := tbm (i := 670) (by decide +kernel) (by decide +kernel)
theorem lk_L_107 : Cond.methodLink RL 107 yX7_boards ∈ TB := tbm (i := 1408) (by decide +kernel) (by decide +kernel)
theorem lk_L_108 : Cond.methodLink RL 108 yX6_slack ∈ TB := tbm (i := 691) (by decide +kernel) (by decide +kernel)
theorem lk_L_111 : Cond.methodLink RL 111 yX7_slack ∈ TB := tbm (i := 1421) (by decide +kernel) (by decide +kernel)
theorem lk_L_112 : Cond.methodLink RL 112 yX6_reach ∈ TB := tbm (i := 695) (by decide +kernel) (by decide +kernel)
theorem lk_L_115 : Cond.methodLink RL 115 yX7_reach ∈ TB := tbm (i := 1425) (by decide +kernel) (by decide +kernel)
theorem lk_L_116 : Cond.methodLink RL 116 yX6_between ∈ TB := tbm (i := 699) (by decide +kernel) (by decide +kernel)
theorem lk_L_119 : Cond.methodLink RL 119 yX7_between ∈ TB := tbm (i := 1429) (by decide +kernel) (by decide +kernel)
theorem lk_L_120 : Cond.methodLink RL 120 yX6_load ∈ TB := tbm (i := 703) (by decide +kernel) (by decide +kernel)
theorem lk_L_123 : Cond.methodLink RL 123 yX7_load ∈ TB := tbm (i := 1433) (by decide +kernel) (by decide +kernel)
theorem lk_L_124 : Cond.methodLink RL 124 yX6_passes ∈ TB := tbm (i := 736) (by decide +kernel) (by decide +kernel)
theorem lk_L_127 : Cond.methodLink RL 127 yX7_passes ∈ TB := tbm (i := 1445) (by decide +kernel) (by decide +kernel)
theorem lk_L_128 : Cond.methodLink RL 128 yX6_ridden ∈ TB := tbm (i := 740) (by decide +kernel) (by decide +kernel)
theorem lk_L_131 : Cond.methodLink RL 131 yX7_ridden ∈ TB := tbm (i := 1449) (by decide +kernel) (by decide +kernel)
theorem lk_L_132 : Cond.methodLink RL 132 yX6_boardings ∈ TB := tbm (i := 752) (by decide +kernel) (by decide +kernel)
theorem lk_L_135 : Cond.methodLink RL 135 yX7_boardings ∈ TB := tbm (i := 1453) (by decide +kernel) (by decide +kernel)
theorem lk_L_136 : Cond.methodLink RL 136 yX6_total ∈ TB := tbm (i := 756) (by decide +kernel) (by decide +kernel)
theorem lk_L_140 : Cond.methodLink RL 140 yX7_total ∈ TB := tbm (i := 1457) (by decide +kernel) (by decide +kernel)
theorem lk_L_141 : Cond.methodLink RL 141 yX6_fullest ∈ TB := tbm (i := 770) (by decide +kernel) (by decide +kernel)
theorem lk_L_144 : Cond.methodLink RL 144 yX7_fullest ∈ TB := tbm (i := 1469) (by decide +kernel) (by decide +kernel)
theorem lk_L_145 : Cond.methodLink RL 145 yX6_changes ∈ TB := tbm (i := 774) (by decide +kernel) (by decide +kernel)
theorem lk_L_148 : Cond.methodLink RL 148 yX7_changes ∈ TB := tbm (i := 1473) (by decide +kernel) (by decide +kernel)
theorem lk_L_149 : Cond.methodLink RL 149 yX6_crowd ∈ TB := tbm (i := 782) (by decide +kernel) (by decide +kernel)
theorem lk_L_152 : Cond.methodLink RL 152 yX7_crowd ∈ TB := tbm (i := 1477) (by decide +kernel) (by decide +kernel)
theorem lk_L_153 : Cond.methodLink RL 153 yX6_seats ∈ TB := tbm (i := 786) (by decide +kernel) (by decide +kernel)
theorem lk_L_156 : Cond.methodLink RL 156 yX7_seats ∈ TB := tbm (i := 1481) (by decide +kernel) (by decide +kernel)
theorem lk_L_157 : Cond.methodLink RL 157 yX6_settles ∈ TB := tbm (i := 790) (by decide +kernel) (by decide +kernel)
theorem lk_L_160 : Cond.methodLink RL 160 yX7_settles ∈ TB := tbm (i := 1486) (by decide +kernel) (by decide +kernel)
theorem lk_L_161 : Cond.methodLink RL 161 yX6_balances ∈ TB := tbm (i := 811) (by decide +kernel) (by decide +kernel)
theorem lk_L_164 : Cond.methodLink RL 164 yX7_balances ∈ TB := tbm (i := 1500) (by decide +kernel) (by decide +kernel)
theorem lk_L_165 : Cond.methodLink RL 165 yX6_averaged ∈ TB := tbm (i := 815) (by decide +kernel) (by decide +kernel)
theorem lk_L_168 : Cond.methodLink RL 168 yX7_averaged ∈ TB := tbm (i := 1505) (by decide +kernel) (by decide +kernel)
theorem lk_L_169 : Cond.methodLink RL 169 yX6_clears ∈ TB := tbm (i := 819) (by decide +kernel) (by decide +kernel)
theorem lk_L_172 : Cond.methodLink RL 172 yX7_clears ∈ TB := tbm (i := 1509) (by decide +kernel) (by decide +kernel)
theorem lk_L_173 : Cond.methodLink RL 173 yX6_without ∈ TB := tbm (i := 827) (by decide +kernel) (by decide +kernel)
theorem lk_L_176 : Cond.methodLink RL 176 yX7_without ∈ TB := tbm (i := 1513) (by decide +kernel) (by decide +kernel)
theorem lk_L_177 : Cond.methodLink RL 177 yX6_shut ∈ TB := tbm (i := 841) (by decide +kernel) (by decide +kernel)
theorem lk_L_180 : Cond.methodLink RL 180 yX7_shut ∈ TB := tbm (i := 1526) (by decide +kernel) (by decide +kernel)
theorem lk_L_181 : Cond.methodLink RL 181 yX6_more ∈ TB := tbm (i := 845) (by decide +kernel) (by decide +kernel)
theorem lk_L_185 : Cond.methodLink RL 185 yX7_more ∈ TB := tbm (i := 1530) (by decide +kernel) (by decide +kernel)
theorem lk_L_186 : Cond.methodLink RL 186 yX6_best ∈ TB := tbm (i := 856) (by decide +kernel) (by decide +kernel)
theorem lk_L_189 : Cond.methodLink RL 189 yX7_best ∈ TB := tbm (i := 1540) (by decide +kernel) (by decide +kernel)
theorem lk_L_190 : Cond.methodLink RL 190 yX6_towards ∈ TB := tbm (i := 860) (by decide +kernel) (by decide +kernel)
theorem lk_L_193 : Cond.methodLink RL 193 yX7_towards ∈ TB := tbm (i := 1544) (by decide +kernel) (by decide +kernel)
theorem lk_L_194 : Cond.methodLink RL 194 yX6_slower ∈ TB := tbm (i := 868) (by decide +kernel) (by decide +kernel)
theorem lk_L_198 : Cond.methodLink RL 198 yX7_slower ∈ TB := tbm (i := 1548) (by decide +kernel) (by decide +kernel)
theorem lk_L_199 : Cond.methodLink RL 199 yX6_skips ∈ TB := tbm (i := 873) (by decide +kernel) (by decide +kernel)
theorem lk_L_202 : Cond.methodLink RL 202 yX7_skips ∈ TB := tbm (i := 1553) (by decide +kernel) (by decide +kernel)
theorem lk_L_203 : Cond.methodLink RL 203 yX6_uses ∈ TB := tbm (i := 890) (by decide +kernel) (by decide +kernel)
theorem lk_L_206 : Cond.methodLink RL 206 yX7_uses ∈ TB := tbm (i := 1557) (by decide +kernel) (by decide +kernel)
theorem lk_L_207 : Cond.methodLink RL 207 yX6_centre ∈ TB := tbm (i := 898) (by decide +kernel) (by decide +kernel)
theorem lk_L_210 : Cond.methodLink RL 210 yX7_centre ∈ TB := tbm (i := 1561) (by decide +kernel) (by decide +kernel)
theorem lk_L_211 : Cond.methodLink RL 211 yX6_spare ∈ TB := tbm (i := 902) (by decide +kernel) (by decide +kernel)
theorem lk_L_214 : Cond.methodLink RL 214 yX7_spare ∈ TB := tbm (i := 1565) (by decide +kernel) (by decide +kernel)
theorem lk_L_215 : Cond.methodLink RL 215 yX6_offset ∈ TB := tbm (i := 910) (by decide +kernel) (by decide +kernel)
theorem lk_L_218 : Cond.methodLink RL 218 yX7_offset ∈ TB := tbm (i := 1569) (by decide +kernel) (by decide +kernel)
theorem lk_L_219 : Cond.methodLink RL 219 yX6_comes ∈ TB := tbm (i := 914) (by decide +kernel) (by decide +kernel)
theorem lk_L_223 : Cond.methodLink RL 223 yX7_comes ∈ TB := tbm (i := 1573) (by decide +kernel) (by decide +kernel)
theorem lk_L_224 : Cond.methodLink RL 224 yX6_journey ∈ TB := tbm (i := 931) (by decide +kernel) (by decide +kernel)
theorem lk_L_227 : Cond.methodLink RL 227 yX7_journey ∈ TB := tbm (i := 1583) (by decide +kernel) (by decide +kernel)
theorem lk_L_228 : Cond.methodLink RL 228 yX6_usual ∈ TB := tbm (i := 950) (by decide +kernel) (by decide +kernel)
theorem lk_L_231 : Cond.methodLink RL 231 yX7_usual ∈ TB := tbm (i := 1591) (by decide +kernel) (by decide +kernel)
theorem lk_L_232 : Cond.methodLink RL 232 yX6_count ∈ TB := tbm (i := 960) (by decide +kernel) (by decide +kernel)
theorem lk_L_235 : Cond.methodLink RL 235 yX7_count ∈ TB := tbm (i := 1599) (by decide +kernel) (by decide +kernel)
theorem lk_L_236 : Cond.methodLink RL 236 yL_row ∈ TB := tbm (i := 977) (by decide +kernel) (by decide +kernel)
theorem lk_L_241 : Cond.methodLink RL 241 yX7_row ∈ TB := tbm (i := 1627) (by decide +kernel) (by decide +kernel)
theorem lk_L_242 : Cond.methodLink RL 242 yX7_thrown ∈ TB := tbm (i := 1208) (by decide +kernel) (by decide +kernel)
theorem meX6_aboard : MeV yX6_aboard cX6_aboard 4 (some .int) 2 := ⟨⟨tbm (i := 659) (by decide +kernel) (by decide +kernel), tbm (i := 71) (by decide +kernel) (by decide +kernel), by decide +kernel, by decide +kernel, by decide +kernel⟩, tbm (i := 657) (by decide +kernel) (by decide +kernel), tbm (i := 658) (by decide +kernel) (by decide +kernel)⟩
theorem meX6_adds : MeV yX6_adds cX6_adds 2 (some .int) 0 := ⟨⟨tbm (i := 472) (by decide +kernel) (by decide +kernel), tbm (i := 71) (by decide +kernel) (by decide +kernel), by decide +kernel, by decide +kernel, by decide +kernel⟩, tbm (i := 470) (by decide +kernel) (by decide +kernel), tbm (i := 471) (by decide +kernel) (by decide +kernel)⟩
theorem meX6_averaged : MeV yX6_averaged cX6_averaged 3 (some .int) 2 := ⟨⟨tbm (i := 818) (by decide +kernel) (by decide +kernel), tbm (i := 71) (by decide +kernel) (by decide +kernel), by decide +kernel, by decide +kernel, by decide +kernel⟩, tbm (i := 816) (by decide +kernel) (by decide +kernel), tbm (i := 817) (by decide +kernel) (by decide +kernel)⟩
theorem meX6_balances : MeV yX6_balances cX6_balances 5 (some .int) 2 := ⟨⟨tbm (i := 814) (by decide +kernel) (by decide +kernel), tbm (i := 71) (by decide +kernel) (by decide +kernel), by decide +kernel, by decide +kernel, by decide +kernel⟩, tbm (i := 812) (by decide +kernel) (by decide +kernel), tbm (i := 813) (by decide +kernel) (by decide +kernel)⟩
theorem meX6_best : MeV yX6_best cX6_best 8 (some .int) 1 := ⟨⟨tbm (i := 859) (by decide +kernel) (by decide +kernel), tbm (i := 71) (by decide +kernel) (by decide +kernel), by decide +kernel, by decide +kernel, by decide +kernel⟩, tbm (i := 857) (by decide +kernel) (by decide +kernel), tbm (i := 858) (by decide +kernel) (by decide +kernel)⟩
theorem meX6_between : MeV yX6_between cX6_between 5 (some .int) 2 := ⟨⟨tbm (i := 702) (by decide +kernel) (by decide +kernel), tbm (i := 71) (by decide +kernel) (by decide +kernel), by decide +kernel, by decide +kernel, by decide +kernel⟩, tbm (i := 700) (by decide +kernel) (by decide +kernel), tbm (i := 701) (by decide +kernel) (by decide +kernel)⟩
theorem meX6_boarding : MeV yX6_boarding cX6_boarding 4 (some .int) 2 := ⟨⟨tbm (i := 641) (by decide +kernel) (by decide +kernel), tbm (i := 71) (by decide +kernel) (by decide +kernel), by decide +kernel, by decide +kernel, by decide +kernel⟩, tbm (i := 639) (by decide +kernel) (by decide +kernel), tbm (i := 640) (by decide +kernel) (by decide +kernel)⟩
theorem meX6_boardings : MeV yX6_boardings cX6_boardings 3 (some .int) 2 := ⟨⟨tbm (i := 755) (by decide +kernel) (by decide +kernel), tbm (i := 71) (by decide +kernel) (by decide +kernel), by decide +kernel, by decide +kernel, by decide +kernel⟩, tbm (i := 753) (by decide +kernel) (by decide +kernel), tbm (i := 754) (by decide +kernel) (by decide +kernel)⟩
theorem meX6_boards : MeV yX6_boards cX6_boards 2 (some .int) 1 := ⟨⟨tbm (i := 673) (by decide +kernel) (by decide +kernel), tbm (i := 71) (by decide +kernel) (by decide +kernel), by decide +kernel, by decide +kernel, by decide +kernel⟩, tbm (i := 671) (by decide +kernel) (by decide +kernel), tbm (i := 672) (by decide +kernel) (by decide +kernel)⟩
theorem meX6_centre : MeV yX6_centre cX6_centre 9 (some .int) 0 := ⟨⟨tbm (i := 901) (by decide +kernel) (by decide +kernel), tbm (i := 71) (by decide +kernel) (by decide +kernel), by decide +kernel, by decide +kernel, by decide +kernel⟩, tbm (i := 899) (by decide +kernel) (by decide +kernel), tbm (i := 900) (by decide +kernel) (by decide +kernel)⟩
theorem meX6_changes : MeV yX6_changes cX6_changes 1 (some .int) 0 := ⟨⟨tbm (i := 777) (by decide +kernel) (by decide +kernel), tbm (i := 71) (by decide +kernel) (by decide +kernel), by decide +kernel, by decide +kernel, by decide +kernel⟩, tbm (i := 775) (by decide +kernel) (by decide +kernel), tbm (i := 776) (by decide +kernel) (by decide +kernel)⟩
theorem meX6_chosen : MeV yX6_chosen cX6_chosen 4 (some .int) 1 := ⟨⟨tbm (i := 633) (by decide +kernel) (by decide +kernel), tbm (i := 71) (by decide +kernel) (by decide +kernel), by decide +kernel, by decide +kernel, by decide +kernel⟩, tbm (i := 631) (by decide +kernel) (by decide +kernel), tbm (i := 632) (by decide +kernel) (by decide +kernel)⟩
theorem meX6_clears : MeV yX6_clears cX6_clears 2 (some .int) 0 := ⟨⟨tbm (i := 822) (by decide +kernel) (by decide +kernel), tbm (i := 71) (by decide +kernel) (by decide +kernel), by decide +kernel, by decide +kernel, by decide +kernel⟩, tbm (i := 820) (by decide +kernel) (by decide +kernel), tbm (i := 821) (by decide +kernel) (by decide +kernel)⟩
theorem meX6_closes : MeV yX6_closes cX6_closes 3 (some .int) 2 := ⟨⟨tbm (i := 528) (by decide +kernel) (by decide +kernel), tbm (i := 71) (by decide +kernel) (by decide +kernel), by decide +kernel, by decide +kernel, by decide +kernel⟩, tbm (i := 526) (by decide +kernel) (by decide +kernel), tbm (i := 527) (by decide +kernel) (by decide +kernel)⟩
theorem meX6_comes : MeV yX6_comes cX6_comes 4 (some .int) 3 := ⟨⟨tbm (i := 917) (by decide +kernel) (by decide +kernel), tbm (i := 71) (by decide +kernel) (by decide +kernel), by decide +kernel, by decide +kernel, by decide +kernel⟩, tbm (i := 915) (by decide +kernel) (by decide +kernel), tbm (i := 916) (by decide +kernel) (by decide +kernel)⟩
theorem meX6_cost : MeV yX6_cost cX6_cost 3 (some .int) 1 := ⟨⟨tbm (i := 570) (by decide +kernel) (by decide +kernel), tbm (i := 71) (by decide +kernel) (by decide +kernel), by decide +kernel, by decide +kernel, by decide +kernel⟩, tbm (i := 568) (by decide +kernel) (by decide +kernel), tbm (i := 569) (by decide +kernel) (by decide +kernel)⟩
theorem meX6_count : MeV yX6_count cX6_count 2 (some .int) 1 := ⟨⟨tbm (i := 963) (by decide +kernel) (by decide +kernel), tbm (i := 71) (by decide +kernel) (by decide +kernel), by decide +kernel, by decide +kernel, by decide +kernel⟩, tbm (i := 961) (by decide +kernel) (by decide +kernel), tbm (i := 962) (by decide +kernel) (by decide +kernel)⟩
theorem meX6_crowd : MeV yX6_crowd cX6_crowd 3 (some .int) 1 := ⟨⟨tbm (i := 785) (by decide +kernel) (by decide +kernel), tbm (i := 71) (by decide +kernel) (by decide +kernel), by decide +kernel, by decide +kernel, by decide +kernel⟩, tbm (i := 783) (by decide +kernel) (by decide +kernel), tbm (i := 784) (by decide +kernel) (by decide +kernel)⟩
theorem meX6_drops : MeV yX6_drops cX6_drops 2 (some .int) 1 := ⟨⟨tbm (i := 484) (by decide +kernel) (by decide +kernel), tbm (i := 71) (by decide +kernel) (by decide +kernel), by decide +kernel, by decide +kernel, by decide +kernel⟩, tbm (i := 482) (by decide +kernel) (by decide +kernel), tbm (i := 483) (by decide +kernel) (by decide +kernel)⟩
theorem meX6_end : MeV yX6_end cX6_end 2 (some .boolean) 1 := ⟨⟨tbm (i := 390) (by decide +kernel) (by decide +kernel), tbm (i := 71) (by decide +kernel) (by decide +kernel), by decide +kernel, by decide +kernel, by decide +kernel⟩, tbm (i := 388) (by decide +kernel) (by decide +kernel), tbm (i := 389) (by decide +kernel) (by decide +kernel)⟩
theorem meX6_fullest : MeV yX6_fullest cX6_fullest 5 (some .int) 0 := ⟨⟨tbm (i := 773) (by decide +kernel) (by decide +kernel), tbm (i := 71) (by decide +kernel) (by decide +kernel), by decide +kernel, by decide +kernel, by decide +kernel⟩, tbm (i := 771) (by decide +kernel) (by decide +kernel), tbm (i := 772) (by decide +kernel) (by decide +kernel)⟩
theorem meX6_goal : MeV yX6_goal cX6_goal 3 (some .int) 1 := ⟨⟨tbm (i := 500) (by decide +kernel) (by decide +kernel), tbm (i := 71) (by decide +kernel) (by decide +kernel), by decide +kernel, by decide +kernel, by decide +kernel⟩, tbm (i := 498) (by decide +kernel) (by decide +kernel), tbm (i := 499) (by decide +kernel) (by decide +kernel)⟩
theorem meX6_journey : MeV yX6_journey cX6_journey 5 (some .int) 2 := ⟨⟨tbm (i := 934) (by decide +kernel) (by decide +kernel), tbm (i := 71) (by decide +kernel) (by decide +kernel), by decide +kernel, by decide +kernel, by decide +kernel⟩, tbm (i := 932) (by decide +kernel) (by decide +kernel), tbm (i := 933) (by decide +kernel) (by decide +kernel)⟩
theorem meX6_line : MeV yX6_line cX6_line 4 (some .int) 2 := ⟨⟨tbm (i := 540) (by decide +kernel) (by decide +kernel), tbm (i := 71) (by decide +kernel) (by decide +kernel), by decide +kernel, by decide +kernel, by decide +kernel⟩, tbm (i := 538) (by decide +kernel) (by decide +kernel), tbm (i := 539) (by decide +kernel) (by decide +kernel)⟩
theorem meX6_load : MeV yX6_load cX6_load 3 (some .int) 2 := ⟨⟨tbm (i := 706) (by decide +kernel) (by decide +kernel), tbm (i := 71) (by decide +kernel) (by decide +kernel), by decide +kernel, by decide +kernel, by decide +kernel⟩, tbm (i := 704) (by decide +kernel) (by decide +kernel), tbm (i := 705) (by decide +kernel) (by decide +kernel)⟩
theorem meX6_more : MeV yX6_more cX6_more 5 (some .long) 2 := ⟨⟨tbm (i := 848) (by decide +kernel) (by decide +kernel), tbm (i := 71) (by decide +kernel) (by decide +kernel), by decide +kernel, by decide +kernel, by decide +kernel⟩, tbm (i := 846) (by decide +kernel) (by decide +kernel), tbm (i := 847) (by decide +kernel) (by decide +kernel)⟩
theorem meX6_net : MeV yX6_net cX6_net 2 (some .int) 0 := ⟨⟨tbm (i := 394) (by decide +kernel) (by decide +kernel), tbm (i := 71) (by decide +kernel) (by decide +kernel), by decide +kernel, by decide +kernel, by decide +kernel⟩, tbm (i := 392) (by decide +kernel) (by decide +kernel), tbm (i := 393) (by decide +kernel) (by decide +kernel)⟩
theorem meX6_offset : MeV yX6_offset cX6_offset 4 (some .int) 2 := ⟨⟨tbm (i := 913) (by decide +kernel) (by decide +kernel), tbm (i := 71) (by decide +kernel) (by decide +kernel), by decide +kernel, by decide +kernel, by decide +kernel⟩, tbm (i := 911) (by decide +kernel) (by decide +kernel), tbm (i := 912) (by decide +kernel) (by decide +kernel)⟩
theorem meX6_often : MeV yX6_often cX6_often 4 (some .int) 2 := ⟨⟨tbm (i := 536) (by decide +kernel) (by decide +kernel), tbm (i := 71) (by decide +kernel) (by decide +kernel), by decide +kernel, by decide +kernel, by decide +kernel⟩, tbm (i := 534) (by decide +kernel) (by decide +kernel), tbm (i := 535) (by decide +kernel) (by decide +kernel)⟩
theorem meX6_out : MeV yX6_out cX6_out 3 (some .int) 2 := ⟨⟨tbm (i := 511) (by decide +kernel) (by decide +kernel), tbm (i := 71) (by decide +kernel) (by decide +kernel), by decide +kernel, by decide +kernel, by decide +kernel⟩, tbm (i := 509) (by decide +kernel) (by decide +kernel), tbm (i := 510) (by decide +kernel) (by decide +kernel)⟩
theorem meX6_passes : MeV yX6_passes cX6_passes 3 (some .int) 1 := ⟨⟨tbm (i := 739) (by decide +kernel) (by decide +kernel), tbm (i := 71) (by decide +kernel) (by decide +kernel), by decide +kernel, by decide +kernel, by decide +kernel⟩, tbm (i := 737) (by decide +kernel) (by decide +kernel), tbm (i := 738) (by decide +kernel) (by decide +kernel)⟩
theorem meX6_reach : MeV yX6_reach cX6_reach 3 (some .int) 1 := ⟨⟨tbm (i := 698) (by decide +kernel) (by decide +kernel), tbm (i := 71) (by decide +kernel) (by decide +kernel), by decide +kernel, by decide +kernel, by decide +kernel⟩, tbm (i := 696) (by decide +kernel) (by decide +kernel), tbm (i := 697) (by decide +kernel) (by decide +kernel)⟩
theorem meX6_ridden : MeV yX6_ridden cX6_ridden 4 (some .int) 1 := ⟨⟨tbm (i := 743) (by decide +kernel) (by decide +kernel), tbm (i := 71) (by decide +kernel) (by decide +kernel), by decide +kernel, by decide +kernel, by decide +kernel⟩, tbm (i := 741) (by decide +kernel) (by decide +kernel), tbm (i := 742) (by decide +kernel) (by decide +kernel)⟩
theorem meX6_riders : MeV yX6_riders cX6_riders 4 (some .int) 2 := ⟨⟨tbm (i := 507) (by decide +kernel) (by decide +kernel), tbm (i := 71) (by decide +kernel) (by decide +kernel), by decide +kernel, by decide +kernel, by decide +kernel⟩, tbm (i := 505) (by decide +kernel) (by decide +kernel), tbm (i := 506) (by decide +kernel) (by decide +kernel)⟩
theorem meX6_rounds : MeV yX6_rounds cX6_rounds 1 (some .int) 0 := ⟨⟨tbm (i := 620) (by decide +kernel) (by decide +kernel), tbm (i := 71) (by decide +kernel) (by decide +kernel), by decide +kernel, by decide +kernel, by decide +kernel⟩, tbm (i := 618) (by decide +kernel) (by decide +kernel), tbm (i := 619) (by decide +kernel) (by decide +kernel)⟩
theorem meX6_seats : MeV yX6_seats cX6_seats 4 (some .int) 2 := ⟨⟨tbm (i := 789) (by decide +kernel) (by decide +kernel), tbm (i := 71) (by decide +kernel) (by decide +kernel), by decide +kernel, by decide +kernel, by decide +kernel⟩, tbm (i := 787) (by decide +kernel) (by decide +kernel), tbm (i := 788) (by decide +kernel) (by decide +kernel)⟩
theorem meX6_settles : MeV yX6_settles cX6_settles 4 (some .int) 1 := ⟨⟨tbm (i := 793) (by decide +kernel) (by decide +kernel), tbm (i := 71) (by decide +kernel) (by decide +kernel), by decide +kernel, by decide +kernel, by decide +kernel⟩, tbm (i := 791) (by decide +kernel) (by decide +kernel), tbm (i := 792) (by decide +kernel) (by decide +kernel)⟩
theorem meX6_shut : MeV yX6_shut cX6_shut 5 (some .long) 1 := ⟨⟨tbm (i := 844) (by decide +kernel) (by decide +kernel), tbm (i := 71) (by decide +kernel) (by decide +kernel), by decide +kernel, by decide +kernel, by decide +kernel⟩, tbm (i := 842) (by decide +kernel) (by decide +kernel), tbm (i := 843) (by decide +kernel) (by decide +kernel)⟩
theorem meX6_sign : MeV yX6_sign cX6_sign 2 (some .int) 1 := ⟨⟨tbm (i := 382) (by decide +kernel) (by decide +kernel), tbm (i := 71) (by decide +kernel) (by decide +kernel), by decide +kernel, by decide +kernel, by decide +kernel⟩, tbm (i := 380) (by decide +kernel) (by decide +kernel), tbm (i := 381) (by decide +kernel) (by decide +kernel)⟩
theorem meX6_skips : MeV yX6_skips cX6_skips 5 (some .long) 2 := ⟨⟨tbm (i := 876) (by decide +kernel) (by decide +kernel), tbm (i := 71) (by decide +kernel) (by decide +kernel), by decide +kernel, by decide +kernel, by decide +kernel⟩, tbm (i := 874) (by decide +kernel) (by decide +kernel), tbm (i := 875) (by decide +kernel) (by decide +kernel)⟩
theorem meX6_slack : MeV yX6_slack cX6_slack 6 (some .int) 2 := ⟨⟨tbm (i := 694) (by decide +kernel) (by decide +kernel), tbm (i := 71) (by decide +kernel) (by decide +kernel), by decide +kernel, by decide +kernel, by decide +kernel⟩, tbm (i := 692) (by decide +kernel) (by decide +kernel), tbm (i := 693) (by decide +kernel) (by decide +kernel)⟩
theorem meX6_slower : MeV yX6_slower cX6_slower 10 (some .long) 3 := ⟨⟨tbm (i := 871) (by decide +kernel) (by decide +kernel), tbm (i := 71) (by decide +kernel) (by decide +kernel), by decide +kernel, by decide +kernel, by decide +kernel⟩, tbm (i := 869) (by decide +kernel) (by decide +kernel), tbm (i := 870) (by decide +kernel) (by decide +kernel)⟩
theorem meX6_spare : MeV yX6_spare cX6_spare 8 (some .int) 0 := ⟨⟨tbm (i := 905) (by decide +kernel) (by decide +kernel), tbm (i := 71) (by decide +kernel) (by decide +kernel), by decide +kernel, by decide +kernel, by decide +kernel⟩, tbm (i := 903) (by decide +kernel) (by decide +kernel), tbm (i := 904) (by decide +kernel) (by decide +kernel)⟩
theorem meX6_stop : MeV yX6_stop cX6_stop 4 (some .int) 2 := ⟨⟨tbm (i := 545) (by decide +kernel) (by decide +kernel), tbm (i := 71) (by decide +kernel) (by decide +kernel), by decide +kernel, by decide +kernel, by decide +kernel⟩, tbm (i := 543) (by decide +kernel) (by decide +kernel), tbm (i := 544) (by decide +kernel) (by decide +kernel)⟩
theorem meX6_total : MeV yX6_total cX6_total 1 (some .long) 0 := ⟨⟨tbm (i := 759) (by decide +kernel) (by decide +kernel), tbm (i := 71) (by decide +kernel) (by decide +kernel), by decide +kernel, by decide +kernel, by decide +kernel⟩, tbm (i := 757) (by decide +kernel) (by decide +kernel), tbm (i := 758) (by decide +kernel) (by decide +kernel)⟩
theorem meX6_towards : MeV yX6_towards cX6_towards 4 (some .long) 1 := ⟨⟨tbm (i := 863) (by decide +kernel) (by decide +kernel), tbm (i := 71) (by decide +kernel) (by decide +kernel), by decide +kernel, by decide +kernel, by decide +kernel⟩, tbm (i := 861) (by decide +kernel) (by decide +kernel), tbm (i := 862) (by decide +kernel) (by decide +kernel)⟩
theorem meX6_uses : MeV yX6_uses cX6_uses 3 (some .int) 2 := ⟨⟨tbm (i := 893) (by decide +kernel) (by decide +kernel), tbm (i := 71) (by decide +kernel) (by decide +kernel), by decide +kernel, by decide +kernel, by decide +kernel⟩, tbm (i := 891) (by decide +kernel) (by decide +kernel), tbm (i := 892) (by decide +kernel) (by decide +kernel)⟩
theorem meX6_usual : MeV yX6_usual cX6_usual 9 (some .int) 2 := ⟨⟨tbm (i := 953) (by decide +kernel) (by decide +kernel), tbm (i := 71) (by decide +kernel) (by decide +kernel), by decide +kernel, by decide +kernel, by decide +kernel⟩, tbm (i := 951) (by decide +kernel) (by decide +kernel), tbm (i := 952) (by decide +kernel) (by decide +kernel)⟩
theorem meX6_wait : MeV yX6_wait cX6_wait 2 (some .int) 1 := ⟨⟨tbm (i := 667) (by decide +kernel) (by decide +kernel), tbm (i := 71) (by decide +kernel) (by decide +kernel), by decide +kernel, by decide +kernel, by decide +kernel⟩, tbm (i := 665) (by decide +kernel) (by decide +kernel), tbm (i := 666) (by decide +kernel) (by decide +kernel)⟩
theorem meX6_waiting : MeV yX6_waiting cX6_waiting 3 (some .int) 1 := ⟨⟨tbm (i := 496) (by decide +kernel) (by decide +kernel), tbm (i := 71) (by decide +kernel) (by decide +kernel), by decide +kernel, by decide +kernel, by decide +kernel⟩, tbm (i := 494) (by decide +kernel) (by decide +kernel), tbm (i := 495) (by decide +kernel) (by decide +kernel)⟩
theorem meX6_without : MeV yX6_without cX6_without 5 (some .long) 1 := ⟨⟨tbm (i := 830) (by decide +kernel) (by decide +kernel), tbm (i := 71) (by decide +kernel) (by decide +kernel), by decide +kernel, by decide +kernel, by decide +kernel⟩, tbm (i := 828) (by decide +kernel) (by decide +kernel), tbm (i := 829) (by decide +kernel) (by decide +kernel)⟩
theorem meX6_worst : MeV yX6_worst cX6_worst 4 (some .int) 0 := ⟨⟨tbm (i := 663) (by decide +kernel) (by decide +kernel), tbm (i := 71) (by decide +kernel) (by decide +kernel), by decide +kernel, by decide +kernel, by decide +kernel⟩, tbm (i := 661) (by decide +kernel) (by decide +kernel), tbm (i := 662) (by decide +kernel) (by decide +kernel)⟩
theorem meX7_aboard : MeV yX7_aboard cX7_aboard 3 (some .int) 2 := ⟨⟨tbm (i := 1399) (by decide +kernel) (by decide +kernel), tbm (i := 78) (by decide +kernel) (by decide +kernel), by decide +kernel, by decide +kernel, by decide +kernel⟩, tbm (i := 1397) (by decide +kernel) (by decide +kernel), tbm (i := 1398) (by decide +kernel) (by decide +kernel)⟩
theorem meX7_adds : MeV yX7_adds cX7_adds 1 (some .int) 0 := ⟨⟨tbm (i := 1275) (by decide +kernel) (by decide +kernel), tbm (i := 78) (by decide +kernel) (by decide +kernel), by decide +kernel, by decide +kernel, by decide +kernel⟩, tbm (i := 1273) (by decide +kernel) (by decide +kernel), tbm (i := 1274) (by decide +kernel) (by decide +kernel)⟩
theorem meX7_averaged : MeV yX7_averaged cX7_averaged 3 (some .int) 2 := ⟨⟨tbm (i := 1508) (by decide +kernel) (by decide +kernel), tbm (i := 78) (by decide +kernel) (by decide +kernel), by decide +kernel, by decide +kernel, by decide +kernel⟩, tbm (i := 1506) (by decide +kernel) (by decide +kernel), tbm (i := 1507) (by decide +kernel) (by decide +kernel)⟩
theorem meX7_balances : MeV yX7_balances cX7_balances 4 (some .int) 2 := ⟨⟨tbm (i := 1503) (by decide +kernel) (by decide +kernel), tbm (i := 78) (by decide +kernel) (by decide +kernel), by decide +kernel, by decide +kernel, by decide +kernel⟩, tbm (i := 1501) (by decide +kernel) (by decide +kernel), tbm (i := 1502) (by decide +kernel) (by decide +kernel)⟩
theorem meX7_best : MeV yX7_best cX7_best 8 (some .int) 1 := ⟨⟨tbm (i := 1543) (by decide +kernel) (by decide +kernel), tbm (i := 78) (by decide +kernel) (by decide +kernel), by decide +kernel, by decide +kernel, by decide +kernel⟩, tbm (i := 1541) (by decide +kernel) (by decide +kernel), tbm (i := 1542) (by decide +kernel) (by decide +kernel)⟩
theorem meX7_between : MeV yX7_between cX7_between 4 (some .int) 2 := ⟨⟨tbm (i := 1432) (by decide +kernel) (by decide +kernel), tbm (i := 78) (by decide +kernel) (by decide +kernel), by decide +kernel, by decide +kernel, by decide +kernel⟩, tbm (i := 1430) (by decide +kernel) (by decide +kernel), tbm (i := 1431) (by decide +kernel) (by decide +kernel)⟩
theorem meX7_boarding : MeV yX7_boarding cX7_boarding 3 (some .int) 2 := ⟨⟨tbm (i := 1387) (by decide +kernel) (by decide +kernel), tbm (i := 78) (by decide +kernel) (by decide +kernel), by decide +kernel, by decide +kernel, by decide +kernel⟩, tbm (i := 1385) (by decide +kernel) (by decide +kernel), tbm (i := 1386) (by decide +kernel) (by decide +kernel)⟩
theorem meX7_boardings : MeV yX7_boardings cX7_boardings 3 (some .int) 2 := ⟨⟨tbm (i := 1456) (by decide +kernel) (by decide +kernel), tbm (i := 78) (by decide +kernel) (by decide +kernel), by decide +kernel, by decide +kernel, by decide +kernel⟩, tbm (i := 1454) (by decide +kernel) (by decide +kernel), tbm (i := 1455) (by decide +kernel) (by decide +kernel)⟩
theorem meX7_boards : MeV yX7_boards cX7_boards 8 (some .int) 1 := ⟨⟨tbm (i := 1411) (by decide +kernel) (by decide +kernel), tbm (i := 78) (by decide +kernel) (by decide +kernel), by decide +kernel, by decide +kernel, by decide +kernel⟩, tbm (i := 1409) (by decide +kernel) (by decide +kernel), tbm (i := 1410) (by decide +kernel) (by decide +kernel)⟩
theorem meX7_centre : MeV yX7_centre cX7_centre 12 (some .int) 0 := ⟨⟨tbm (i := 1564) (by decide +kernel) (by decide +kernel), tbm (i := 78) (by decide +kernel) (by decide +kernel), by decide +kernel, by decide +kernel, by decide +kernel⟩, tbm (i := 1562) (by decide +kernel) (by decide +kernel), tbm (i := 1563) (by decide +kernel) (by decide +kernel)⟩
theorem meX7_changes : MeV yX7_changes cX7_changes 4 (some .int) 0 := ⟨⟨tbm (i := 1476) (by decide +kernel) (by decide +kernel), tbm (i := 78) (by decide +kernel) (by decide +kernel), by decide +kernel, by decide +kernel, by decide +kernel⟩, tbm (i := 1474) (by decide +kernel) (by decide +kernel), tbm (i := 1475) (by decide +kernel) (by decide +kernel)⟩
theorem meX7_chosen : MeV yX7_chosen cX7_chosen 4 (some .int) 1 := ⟨⟨tbm (i := 1383) (by decide +kernel) (by decide +kernel), tbm (i := 78) (by decide +kernel) (by decide +kernel), by decide +kernel, by decide +kernel, by decide +kernel⟩, tbm (i := 1381) (by decide +kernel) (by decide +kernel), tbm (i := 1382) (by decide +kernel) (by decide +kernel)⟩
theorem meX7_clears : MeV yX7_clears cX7_clears 3 (some .int) 0 := ⟨⟨tbm (i := 1512) (by decide +kernel) (by decide +kernel), tbm (i := 78) (by decide +kernel) (by decide +kernel), by decide +kernel, by decide +kernel, by decide +kernel⟩, tbm (i := 1510) (by decide +kernel) (by decide +kernel), tbm (i := 1511) (by decide +kernel) (by decide +kernel)⟩
theorem meX7_closes : MeV yX7_closes cX7_closes 5 (some .int) 2 := ⟨⟨tbm (i := 1309) (by decide +kernel) (by decide +kernel), tbm (i := 78) (by decide +kernel) (by decide +kernel), by decide +kernel, by decide +kernel, by decide +kernel⟩, tbm (i := 1307) (by decide +kernel) (by decide +kernel), tbm (i := 1308) (by decide +kernel) (by decide +kernel)⟩
theorem meX7_comes : MeV yX7_comes cX7_comes 4 (some .int) 3 := ⟨⟨tbm (i := 1576) (by decide +kernel) (by decide +kernel), tbm (i := 78) (by decide +kernel) (by decide +kernel), by decide +kernel, by decide +kernel, by decide +kernel⟩, tbm (i := 1574) (by decide +kernel) (by decide +kernel), tbm (i := 1575) (by decide +kernel) (by decide +kernel)⟩
theorem meX7_cost : MeV yX7_cost cX7_cost 2 (some .int) 1 := ⟨⟨tbm (i := 1334) (by decide +kernel) (by decide +kernel), tbm (i := 78) (by decide +kernel) (by decide +kernel), by decide +kernel, by decide +kernel, by decide +kernel⟩, tbm (i := 1332) (by decide +kernel) (by decide +kernel), tbm (i := 1333) (by decide +kernel) (by decide +kernel)⟩
theorem meX7_count : MeV yX7_count cX7_count 2 (some .int) 1 := ⟨⟨tbm (i := 1602) (by decide +kernel) (by decide +kernel), tbm (i := 78) (by decide +kernel) (by decide +kernel), by decide +kernel, by decide +kernel, by decide +kernel⟩, tbm (i := 1600) (by decide +kernel) (by decide +kernel), tbm (i := 1601) (by decide +kernel) (by decide +kernel)⟩
theorem meX7_crowd : MeV yX7_crowd cX7_crowd 3 (some .int) 1 := ⟨⟨tbm (i := 1480) (by decide +kernel) (by decide +kernel), tbm (i := 78) (by decide +kernel) (by decide +kernel), by decide +kernel, by decide +kernel, by decide +kernel⟩, tbm (i := 1478) (by decide +kernel) (by decide +kernel), tbm (i := 1479) (by decide +kernel) (by decide +kernel)⟩
theorem meX7_drops : MeV yX7_drops cX7_drops 4 (some .int) 1 := ⟨⟨tbm (i := 1279) (by decide +kernel) (by decide +kernel), tbm (i := 78) (by decide +kernel) (by decide +kernel), by decide +kernel, by decide +kernel, by decide +kernel⟩, tbm (i := 1277) (by decide +kernel) (by decide +kernel), tbm (i := 1278) (by decide +kernel) (by decide +kernel)⟩
theorem meX7_end : MeV yX7_end cX7_end 2 (some .boolean) 1 := ⟨⟨tbm (i := 1219) (by decide +kernel) (by decide +kernel), tbm (i := 78) (by decide +kernel) (by decide +kernel), by decide +kernel, by decide +kernel, by decide +kernel⟩, tbm (i := 1217) (by decide +kernel) (by decide +kernel), tbm (i := 1218) (by decide +kernel) (by decide +kernel)⟩
theorem meX7_fullest : MeV yX7_fullest cX7_fullest 4 (some .int) 0 := ⟨⟨tbm (i := 1472) (by decide +kernel) (by decide +kernel), tbm (i := 78) (by decide +kernel) (by decide +kernel), by decide +kernel, by decide +kernel, by decide +kernel⟩, tbm (i := 1470) (by decide +kernel) (by decide +kernel), tbm (i := 1471) (by decide +kernel) (by decide +kernel)⟩
theorem meX7_goal : MeV yX7_goal cX7_goal 3 (some .int) 1 := ⟨⟨tbm (i := 1292) (by decide +kernel) (by decide +kernel), tbm (i := 78) (by decide +kernel) (by decide +kernel), by decide +kernel, by decide +kernel, by decide +kernel⟩, tbm (i := 1290) (by decide +kernel) (by decide +kernel), tbm (i := 1291) (by decide +kernel) (by decide +kernel)⟩
theorem meX7_journey : MeV yX7_journey cX7_journey 3 (some .int) 2 := ⟨⟨tbm (i := 1586) (by decide +kernel) (by decide +kernel), tbm (i := 78) (by decide +kernel) (by decide +kernel), by decide +kernel, by decide +kernel, by decide +kernel⟩, tbm (i := 1584) (by decide +kernel) (by decide +kernel), tbm (i := 1585) (by decide +kernel) (by decide +kernel)⟩
theorem meX7_line : MeV yX7_line cX7_line 3 (some .int) 2 := ⟨⟨tbm (i := 1318) (by decide +kernel) (by decide +kernel), tbm (i := 78) (by decide +kernel) (by decide +kernel), by decide +kernel, by decide +kernel, by decide +kernel⟩, tbm (i := 1316) (by decide +kernel) (by decide +kernel), tbm (i := 1317) (by decide +kernel) (by decide +kernel)⟩
theorem meX7_load : MeV yX7_load cX7_load 3 (some .int) 2 := ⟨⟨tbm (i := 1436) (by decide +kernel) (by decide +kernel), tbm (i := 78) (by decide +kernel) (by decide +kernel), by decide +kernel, by decide +kernel, by decide +kernel⟩, tbm (i := 1434) (by decide +kernel) (by decide +kernel), tbm (i := 1435) (by decide +kernel) (by decide +kernel)⟩
theorem meX7_more : MeV yX7_more cX7_more 5 (some .long) 2 := ⟨⟨tbm (i := 1533) (by decide +kernel) (by decide +kernel), tbm (i := 78) (by decide +kernel) (by decide +kernel), by decide +kernel, by decide +kernel, by decide +kernel⟩, tbm (i := 1531) (by decide +kernel) (by decide +kernel), tbm (i := 1532) (by decide +kernel) (by decide +kernel)⟩
theorem meX7_net : MeV yX7_net cX7_net 2 (some .int) 0 := ⟨⟨tbm (i := 1226) (by decide +kernel) (by decide +kernel), tbm (i := 78) (by decide +kernel) (by decide +kernel), by decide +kernel, by decide +kernel, by decide +kernel⟩, tbm (i := 1224) (by decide +kernel) (by decide +kernel), tbm (i := 1225) (by decide +kernel) (by decide +kernel)⟩
theorem meX7_offset : MeV yX7_offset cX7_offset 4 (some .int) 2 := ⟨⟨tbm (i := 1572) (by decide +kernel) (by decide +kernel), tbm (i := 78) (by decide +kernel) (by decide +kernel), by decide +kernel, by decide +kernel, by decide +kernel⟩, tbm (i := 1570) (by decide +kernel) (by decide +kernel), tbm (i := 1571) (by decide +kernel) (by decide +kernel)⟩
theorem meX7_often : MeV yX7_often cX7_often 4 (some .int) 2 := ⟨⟨tbm (i := 1313) (by decide +kernel) (by decide +kernel), tbm (i := 78) (by decide +kernel) (by decide +kernel), by decide +kernel, by decide +kernel, by decide +kernel⟩, tbm (i := 1311) (by decide +kernel) (by decide +kernel), tbm (i := 1312) (by decide +kernel) (by decide +kernel)⟩
theorem meX7_out : MeV yX7_out cX7_out 3 (some .int) 2 := ⟨⟨tbm (i := 1301) (by decide +kernel) (by decide +kernel), tbm (i := 78) (by decide +kernel) (by decide +kernel), by decide +kernel, by decide +kernel, by decide +kernel⟩, tbm (i := 1299) (by decide +kernel) (by decide +kernel), tbm (i := 1300) (by decide +kernel) (by decide +kernel)⟩
theorem meX7_passes : MeV yX7_passes cX7_passes 2 (some .int) 1 := ⟨⟨tbm (i := 1448) (by decide +kernel) (by decide +kernel), tbm (i := 78) (by decide +kernel) (by decide +kernel), by decide +kernel, by decide +kernel, by decide +kernel⟩, tbm (i := 1446) (by decide +kernel) (by decide +kernel), tbm (i := 1447) (by decide +kernel) (by decide +kernel)⟩
theorem meX7_reach : MeV yX7_reach cX7_reach 5 (some .int) 1 := ⟨⟨tbm (i := 1428) (by decide +kernel) (by decide +kernel), tbm (i := 78) (by decide +kernel) (by decide +kernel), by decide +kernel, by decide +kernel, by decide +kernel⟩, tbm (i := 1426) (by decide +kernel) (by decide +kernel), tbm (i := 1427) (by decide +kernel) (by decide +kernel)⟩
theorem meX7_ridden : MeV yX7_ridden cX7_ridden 6 (some .int) 1 := ⟨⟨tbm (i := 1452) (by decide +kernel) (by decide +kernel), tbm (i := 78) (by decide +kernel) (by decide +kernel), by decide +kernel, by decide +kernel, by decide +kernel⟩, tbm (i := 1450) (by decide +kernel) (by decide +kernel), tbm (i := 1451) (by decide +kernel) (by decide +kernel)⟩
theorem meX7_riders : MeV yX7_riders cX7_riders 4 (some .int) 2 := ⟨⟨tbm (i := 1296) (by decide +kernel) (by decide +kernel), tbm (i := 78) (by decide +kernel) (by decide +kernel), by decide +kernel, by decide +kernel, by decide +kernel⟩, tbm (i := 1294) (by decide +kernel) (by decide +kernel), tbm (i := 1295) (by decide +kernel) (by decide +kernel)⟩
theorem meX7_rounds : MeV yX7_rounds cX7_rounds 1 (some .int) 0 := ⟨⟨tbm (i := 1375) (by decide +kernel) (by decide +kernel), tbm (i := 78) (by decide +kernel) (by decide +kernel), by decide +kernel, by decide +kernel, by decide +kernel⟩, tbm (i := 1373) (by decide +kernel) (by decide +kernel), tbm (i := 1374) (by decide +kernel) (by decide +kernel)⟩
theorem meX7_row : MeV yX7_row cX7_row 2 (some .long) 1 := ⟨⟨tbm (i := 1630) (by decide +kernel) (by decide +kernel), tbm (i := 78) (by decide +kernel) (by decide +kernel), by decide +kernel, by decide +kernel, by decide +kernel⟩, tbm (i := 1628) (by decide +kernel) (by decide +kernel), tbm (i := 1629) (by decide +kernel) (by decide +kernel)⟩
theorem meX7_seats : MeV yX7_seats cX7_seats 4 (some .int) 2 := ⟨⟨tbm (i := 1484) (by decide +kernel) (by decide +kernel), tbm (i := 78) (by decide +kernel) (by decide +kernel), by decide +kernel, by decide +kernel, by decide +kernel⟩, tbm (i := 1482) (by decide +kernel) (by decide +kernel), tbm (i := 1483) (by decide +kernel) (by decide +kernel)⟩
theorem meX7_settles : MeV yX7_settles cX7_settles 3 (some .int) 1 := ⟨⟨tbm (i := 1489) (by decide +kernel) (by decide +kernel), tbm (i := 78) (by decide +kernel) (by decide +kernel), by decide +kernel, by decide +kernel, by decide +kernel⟩, tbm (i := 1487) (by decide +kernel) (by decide +kernel), tbm (i := 1488) (by decide +kernel) (by decide +kernel)⟩
theorem meX7_shut : MeV yX7_shut cX7_shut 4 (some .long) 1 := ⟨⟨tbm (i := 1529) (by decide +kernel) (by decide +kernel), tbm (i := 78) (by decide +kernel) (by decide +kernel), by decide +kernel, by decide +kernel, by decide +kernel⟩, tbm (i := 1527) (by decide +kernel) (by decide +kernel), tbm (i := 1528) (by decide +kernel) (by decide +kernel)⟩
theorem meX7_sign : MeV yX7_sign cX7_sign 3 (some .int) 1 := ⟨⟨tbm (i := 1215) (by decide +kernel) (by decide +kernel), tbm (i := 78) (by decide +kernel) (by decide +kernel), by decide +kernel, by decide +kernel, by decide +kernel⟩, tbm (i := 1213) (by decide +kernel) (by decide +kernel), tbm (i := 1214) (by decide +kernel) (by decide +kernel)⟩
theorem meX7_skips : MeV yX7_skips cX7_skips 5 (some .long) 2 := ⟨⟨tbm (i := 1556) (by decide +kernel) (by decide +kernel), tbm (i := 78) (by decide +kernel) (by decide +kernel), by decide +kernel, by decide +kernel, by decide +kernel⟩, tbm (i := 1554) (by decide +kernel) (by decide +kernel), tbm (i := 1555) (by decide +kernel) (by decide +kernel)⟩
theorem meX7_slack : MeV yX7_slack cX7_slack 4 (some .int) 2 := ⟨⟨tbm (i := 1424) (by decide +kernel) (by decide +kernel), tbm (i := 78) (by decide +kernel) (by decide +kernel), by decide +kernel, by decide +kernel, by decide +kernel⟩, tbm (i := 1422) (by decide +kernel) (by decide +kernel), tbm (i := 1423) (by decide +kernel) (by decide +kernel)⟩
theorem meX7_slower : MeV yX7_slower cX7_slower 6 (some .long) 3 := ⟨⟨tbm (i := 1551) (by decide +kernel) (by decide +kernel), tbm (i := 78) (by decide +kernel) (by decide +kernel), by decide +kernel, by decide +kernel, by decide +kernel⟩, tbm (i := 1549) (by decide +kernel) (by decide +kernel), tbm (i := 1550) (by decide +kernel) (by decide +kernel)⟩
theorem meX7_spare : MeV yX7_spare cX7_spare 6 (some .int) 0 := ⟨⟨tbm (i := 1568) (by decide +kernel) (by decide +kernel), tbm (i := 78) (by decide +kernel) (by decide +kernel), by decide +kernel, by decide +kernel, by decide +kernel⟩, tbm (i := 1566) (by decide +kernel) (by decide +kernel), tbm (i := 1567) (by decide +kernel) (by decide +kernel)⟩
theorem meX7_stop : MeV yX7_stop cX7_stop 3 (some .int) 2 := ⟨⟨tbm (i := 1322) (by decide +kernel) (by decide +kernel), tbm (i := 78) (by decide +kernel) (by decide +kernel), by decide +kernel, by decide +kernel, by decide +kernel⟩, tbm (i := 1320) (by decide +kernel) (by decide +kernel), tbm (i := 1321) (by decide +kernel) (by decide +kernel)⟩
theorem meX7_thrown : MeV yX7_thrown cX7_thrown 1 (some .int) 0 := ⟨⟨tbm (i := 1211) (by decide +kernel) (by decide +kernel), tbm (i := 78) (by decide +kernel) (by decide +kernel), by decide +kernel, by decide +kernel, by decide +kernel⟩, tbm (i := 1209) (by decide +kernel) (by decide +kernel), tbm (i := 1210) (by decide +kernel) (by decide +kernel)⟩
theorem meX7_total : MeV yX7_total cX7_total 5 (some .long) 0 := ⟨⟨tbm (i := 1460) (by decide +kernel) (by decide +kernel), tbm (i := 78) (by decide +kernel) (by decide +kernel), by decide +kernel, by decide +kernel, by decide +kernel⟩, tbm (i := 1458) (by decide +kernel) (by decide +kernel), tbm (i := 1459) (by decide +kernel) (by decide +kernel)⟩
theorem meX7_towards : MeV yX7_towards cX7_towards 7 (some .long) 1 := ⟨⟨tbm (i := 1547) (by decide +kernel) (by decide +kernel), tbm (i := 78) (by decide +kernel) (by decide +kernel), by decide +kernel, by decide +kernel, by decide +kernel⟩, tbm (i := 1545) (by decide +kernel) (by decide +kernel), tbm (i := 1546) (by decide +kernel) (by decide +kernel)⟩
theorem meX7_uses : MeV yX7_uses cX7_uses 8 (some .int) 2 := ⟨⟨tbm (i := 1560) (by decide +kernel) (by decide +kernel), tbm (i := 78) (by decide +kernel) (by decide +kernel), by decide +kernel, by decide +kernel, by decide +kernel⟩, tbm (i := 1558) (by decide +kernel) (by decide +kernel), tbm (i := 1559) (by decide +kernel) (by decide +kernel)⟩
theorem meX7_usual : MeV yX7_usual cX7_usual 12 (some .int) 2 := ⟨⟨tbm (i := 1594) (by decide +kernel) (by decide +kernel), tbm (i := 78) (by decide +kernel) (by decide +kernel), by decide +kernel, by decide +kernel, by decide +kernel⟩, tbm (i := 1592) (by decide +kernel) (by decide +kernel), tbm (i := 1593) (by decide +kernel) (by decide +kernel)⟩
theorem meX7_wait : MeV yX7_wait cX7_wait 2 (some .int) 1 := ⟨⟨tbm (i := 1407) (by decide +kernel) (by decide +kernel), tbm (i := 78) (by decide +kernel) (by decide +kernel), by decide +kernel, by decide +kernel, by decide +kernel⟩, tbm (i := 1405) (by decide +kernel) (by decide +kernel), tbm (i := 1406) (by decide +kernel) (by decide +kernel)⟩
theorem meX7_waiting : MeV yX7_waiting cX7_waiting 3 (some .int) 1 := ⟨⟨tbm (i := 1287) (by decide +kernel) (by decide +kernel), tbm (i := 78) (by decide +kernel) (by decide +kernel), by decide +kernel, by decide +kernel, by decide +kernel⟩, tbm (i := 1285) (by decide +kernel) (by decide +kernel), tbm (i := 1286) (by decide +kernel) (by decide +kernel)⟩
theorem meX7_without : MeV yX7_without cX7_without 4 (some .long) 1 := ⟨⟨tbm (i := 1516) (by decide +kernel) (by decide +kernel), tbm (i := 78) (by decide +kernel) (by decide +kernel), by decide +kernel, by decide +kernel, by decide +kernel⟩, tbm (i := 1514) (by decide +kernel) (by decide +kernel), tbm (i := 1515) (by decide +kernel) (by decide +kernel)⟩
theorem meX7_worst : MeV yX7_worst cX7_worst 3 (some .int) 0 := ⟨⟨tbm (i := 1403) (by decide +kernel) (by decide +kernel), tbm (i := 78) (by decide +kernel) (by decide +kernel), by decide +kernel, by decide +kernel, by decide +kernel⟩, tbm (i := 1401) (by decide +kernel) (by decide +kernel), tbm (i := 1402) (by decide +kernel) (by decide +kernel)⟩
set_option maxHeartbeats 40000000 in
set_option maxRecDepth 100000 in
theorem law_loop {p : Program} {l : Launch} {e : Env} {s : State} {m : MethodId} {b B fu sa : Nat} {below : List Frame} {meth : Method} {c : Code} {D : va_G} {ca : Nat → ClassId} {L : Nat} {xs : Nat → Int32} (hl : l.stackTraces = false) (hX : va_X b L xs s s.heap) (hbB : b < B) (hB : B = s.heap.size) (hXN : XN B sa s) (k1844 : Mem → PR) (hk1844 : ∀ (cs9 sl9 : Nat) (s9 : Mem), Sim cL_law RL 8 room_1 B (XLaw p l e s m b below meth c D ca cs9 sl9) (k1844 s9) s9 1844 [] []) : ∀ (n cs sl : Nat) (x0 : Int) (s0 : Mem), cs + n ≤ 601024 → sl + 6 * n ≤ 7293034 → Sim cL_law RL 8 room_1 B (XLaw p l e s m b below meth c D ca cs sl) (fL_law_L fu L xs k1844 n x0 s0) s0 23 [(0, .ref b), (1, rv B 0), (2, rv B 328), (3, rv B 361), (4, iv x0)] [] := by
  intro n
  induction n with
  | zero => intro _ _ _ _ _ _; exact s_none
  | succ n ih0 =>
    intro cs sl x0 s0 hcn hsn
    have ih : ∀ (cs sl : Nat) (x0 : Int) (s0 : Mem), cs + n ≤ 601024 → sl + 6 * n ≤ 7293034 → Sim cL_law RL 8 room_1 B (XLaw p l e s m b below meth c D ca cs sl) (fL_law_L fu L xs k1844 n x0 s0) s0 23 [(0, .ref b), (1, rv B 0), (2, rv B 328), (3, rv B 361), (4, iv x0)] [] := ih0
    have hR1 : cs + 1 ≤ 601024 ∧ sl + 6 ≤ 7293034 := ⟨by omega, by omega⟩
    rw [fL_law_L]
    refine s_iload 4 dL_law_23 rfl ?_
    refine s_aload_n 0 dL_law_25 rfl rfl ?_
    refine s_slen hX hbB hB dL_law_26 ?_
    refine s_iconst dL_law_27 ?_
    refine s_isub dL_law_28 ?_
    refine s_icmp_gt (tgt := 1844) dL_law_29 (by decide) ?_ ?_
    · refine s_sub [] rfl ?_
      exact hk1844 cs sl s0
    · refine s_aload_n 0 dL_law_32 rfl rfl ?_
      refine s_iload 4 dL_law_33 rfl ?_
      refine s_sld hX hbB hB dL_law_35 (fun x1 => ?_)
      refine s_bipush dL_law_36 (by decide) ?_
      refine s_iand dL_law_38 ?_
      refine s_jn (fun (j1 : Mem → PR) => ∀ (cs9 sl9 : Nat) (_ : cs9 ≤ cs + 1) (_ : sl9 ≤ sl + 6) (s119 : Mem), Sim cL_law RL 8 room_1 B (XLaw p l e s m b below meth c D ca cs9 sl9) (j1 s119) s119 1838 [(0, .ref b), (1, rv B 0), (2, rv B 328), (3, rv B 361), (4, iv x0)] []) ?_ (fun j1 hj1 => ?_)
      · intro cs9 sl9 hcs9 hsl9 s1
        refine s_iinc (lv' := [(4, iv (x0 + 4)), (0, .ref b), (1, rv B 0), (2, rv B 328), (3, rv B 361)]) 4 dL_law_1838 rfl (by decide) rfl ?_
        refine s_goto (tgt := 23) dL_law_1841 (by decide) ?_
        refine s_sub [1, 2, 3, 4, 0] rfl ?_
        refine s_wide (cs2 := cs + 1) (sl2 := sl + 6) hcs9 hsl9 ?_ hR1.1 hR1.2
        exact ih (cs + 1) (sl + 6) (x0 + 4) s1 (by omega) (by omega)
      · refine s_ite1 (fun hd0 => ?_) ?_
        · refine s_tabO (tgt := 1838) dL_law_39 hd0 (by decide) ?_
          exact s_sub [0, 1, 2, 3, 4] rfl (hj1 cs sl (Nat.le_succ _) (Nat.le_add_right _ _) s0)
        · refine s_ite1 (fun h0 => ?_) ?_
          · refine s_tabI (tgt := 264) dL_law_39 0 h0 (by decide) (by decide) rfl (by decide) ?_
            refine s_aload_n 1 dL_law_264 rfl rfl ?_
            refine s_aload_n 0 dL_law_265 rfl rfl ?_
            refine s_iload 4 dL_law_266 rfl ?_
            refine s_iconst dL_law_268 ?_
            refine s_iadd dL_law_269 ?_
            refine s_sld hX hbB hB dL_law_270 (fun x2 => ?_)
            refine s_Vi (rest := []) dL_law_271 lk_L_19 meX6_sign (ctX6_sign B fu x2 s0) kd_0 ⟨rfl, by decide⟩ rfl rfl ⟨rfl, rfl, by decide, by decide⟩ (Nat.le_of_ble_eq_true rfl) (fun x3 s2 => ?_)
            refine s_aload_n 2 dL_law_274 rfl rfl ?_
            refine s_aload_n 0 dL_law_275 rfl rfl ?_
            refine s_iload 4 dL_law_276 rfl ?_
            refine s_iconst dL_law_278 ?_
            refine s_iadd dL_law_279 ?_
            refine s_sld hX hbB hB dL_law_280 (fun x4 => ?_)
            refine s_Vi (rest := [iv x3]) dL_law_281 lk_L_23 meX7_sign (ctX7_sign B fu x4 s2) kd_328 ⟨rfl, by decide⟩ rfl rfl ⟨rfl, rfl, by decide, by decide⟩ (Nat.le_of_ble_eq_true rfl) (fun x5 s3 => ?_)
            refine s_icmp_eq (tgt := 1838) dL_law_284 (by decide) ?_ ?_
            · exact s_sub [0, 1, 2, 3, 4] rfl (hj1 cs sl (Nat.le_succ _) (Nat.le_add_right _ _) s3)
            · refine s_iconst dL_law_287 ?_
              exact s_none
          · refine s_ite1 (fun h1 => ?_) ?_
            · refine s_tabI (tgt := 289) dL_law_39 1 h1 (by decide) (by decide) rfl (by decide) ?_
              refine s_aload_n 1 dL_law_289 rfl rfl ?_
              refine s_aload_n 0 dL_law_290 rfl rfl ?_
              refine s_iload 4 dL_law_291 rfl ?_
              refine s_iconst dL_law_293 ?_
              refine s_iadd dL_law_294 ?_
              refine s_sld hX hbB hB dL_law_295 (fun x6 => ?_)
              refine s_Vi (rest := []) dL_law_296 lk_L_24 meX6_end (ctX6_end B fu x6 s0) kd_0 ⟨rfl, by decide⟩ rfl rfl ⟨rfl, rfl, by decide, by decide⟩ (Nat.le_of_ble_eq_true rfl) (fun x7 s4 => ?_)
              refine s_aload_n 2 dL_law_299 rfl rfl ?_
              refine s_aload_n 0 dL_law_300 rfl rfl ?_
              refine s_iload 4 dL_law_301 rfl ?_
              refine s_iconst dL_law_303 ?_
              refine s_iadd dL_law_304 ?_
              refine s_sld hX hbB hB dL_law_305 (fun x8 => ?_)
              refine s_Vi (rest := [iv x7]) dL_law_306 lk_L_28 meX7_end (ctX7_end B fu x8 s4) kd_328 ⟨rfl, by decide⟩ rfl rfl ⟨rfl, rfl, by decide, by decide⟩ (Nat.le_of_ble_eq_true rfl) (fun x9 s5 => ?_)
              refine s_icmp_eq (tgt := 1838) dL_law_309 (by decide) ?_ ?_
              · exact s_sub [0, 1, 2, 3, 4] rfl (hj1 cs sl (Nat.le_succ _) (Nat.le_add_right _ _) s5)
              · refine s_iconst dL_law_312 ?_
                exact s_none
            · refine s_ite1 (fun h2 => ?_) ?_
              · refine s_tabI (tgt := 314) dL_law_39 2 h2 (by decide) (by decide) rfl (by decide) ?_
                refine s_aload_n 1 dL_law_314 rfl rfl ?_
                refine s_Vi (rest := []) dL_law_315 lk_L_29 meX6_net (ctX6_net B fu s0) kd_0 ⟨rfl, by decide⟩ rfl rfl ⟨rfl, rfl, by decide, by decide⟩ (Nat.le_of_ble_eq_true rfl) (fun x10 s6 => ?_)
                refine s_aload_n 2 dL_law_318 rfl rfl ?_
                refine s_Vi (rest := [iv x10]) dL_law_319 lk_L_33 meX7_net (ctX7_net B fu s6) kd_328 ⟨rfl, by decide⟩ rfl rfl ⟨rfl, rfl, by decide, by decide⟩ (Nat.le_of_ble_eq_true rfl) (fun x11 s7 => ?_)
                refine s_icmp_eq (tgt := 1838) dL_law_322 (by decide) ?_ ?_
                · exact s_sub [0, 1, 2, 3, 4] rfl (hj1 cs sl (Nat.le_succ _) (Nat.le_add_right _ _) s7)
                · refine s_iconst dL_law_325 ?_
                  exact s_none
              · refine s_ite1 (fun h3 => ?_) ?_
                · refine s_tabI (tgt := 327) dL_law_39 3 h3 (by decide) (by decide) rfl (by decide) ?_
                  refine s_aload_n 1 dL_law_327 rfl rfl ?_
                  refine s_Vi (rest := []) dL_law_328 lk_L_34 meX6_adds (ctX6_adds B fu s0) kd_0 ⟨rfl, by decide⟩ rfl rfl ⟨rfl, rfl, by decide, by decide⟩ (Nat.le_of_ble_eq_true rfl) (fun x12 s8 => ?_)
                  refine s_aload_n 2 dL_law_331 rfl rfl ?_
                  refine s_Vi (rest := [iv x12]) dL_law_332 lk_L_37 meX7_adds (ctX7_adds B fu s8) kd_328 ⟨rfl, by decide⟩ rfl rfl ⟨rfl, rfl, by decide, by decide⟩ (Nat.le_of_ble_eq_true rfl) (fun x13 s9 => ?_)
                  refine s_icmp_eq (tgt := 1838) dL_law_335 (by decide) ?_ ?_
                  · exact s_sub [0, 1, 2, 3, 4] rfl (hj1 cs sl (Nat.le_succ _) (Nat.le_add_right _ _) s9)
                  · refine s_iconst dL_law_338 ?_
                    exact s_none
                · refine s_ite1 (fun h4 => ?_) ?_
                  · refine s_tabI (tgt := 340) dL_law_39 4 h4 (by decide) (by decide) rfl (by decide) ?_
                    refine s_aload_n 1 dL_law_340 rfl rfl ?_
                    refine s_aload_n 0 dL_law_341 rfl rfl ?_
                    refine s_iload 4 dL_law_342 rfl ?_
                    refine s_iconst dL_law_344 ?_
                    refine s_iadd dL_law_345 ?_
                    refine s_sld hX hbB hB dL_law_346 (fun x14 => ?_)
                    refine s_Vi (rest := []) dL_law_347 lk_L_38 meX6_drops (ctX6_drops B fu x14 s0) kd_0 ⟨rfl, by decide⟩ rfl rfl ⟨rfl, rfl, by decide, by decide⟩ (Nat.le_of_ble_eq_true rfl) (fun x15 s10 => ?_)
                    refine s_aload_n 2 dL_law_350 rfl rfl ?_
                    refine s_aload_n 0 dL_law_351 rfl rfl ?_
                    refine s_iload 4 dL_law_352 rfl ?_
                    refine s_iconst dL_law_354 ?_
                    refine s_iadd dL_law_355 ?_
                    refine s_sld hX hbB hB dL_law_356 (fun x16 => ?_)
                    refine s_Vi (rest := [iv x15]) dL_law_357 lk_L_41 meX7_drops (ctX7_drops B fu x16 s10) kd_328 ⟨rfl, by decide⟩ rfl rfl ⟨rfl, rfl, by decide, by decide⟩ (Nat.le_of_ble_eq_true rfl) (fun x17 s11 => ?_)
                    refine s_icmp_eq (tgt := 1838) dL_law_360 (by decide) ?_ ?_
                    · exact s_sub [0, 1, 2, 3, 4] rfl (hj1 cs sl (Nat.le_succ _) (Nat.le_add_right _ _) s11)
                    · refine s_iconst dL_law_363 ?_
                      exact s_none
                  · refine s_ite1 (fun h5 => ?_) ?_
                    · refine s_tabI (tgt := 365) dL_law_39 5 h5 (by decide) (by decide) rfl (by decide) ?_
                      refine s_aload_n 1 dL_law_365 rfl rfl ?_
                      refine s_aload_n 0 dL_law_366 rfl rfl ?_
                      refine s_iload 4 dL_law_367 rfl ?_
                      refine s_iconst dL_law_369 ?_
                      refine s_iadd dL_law_370 ?_
                      refine s_sld hX hbB hB dL_law_371 (fun x18 => ?_)
                      refine s_Vi (rest := []) dL_law_372 lk_L_42 meX6_waiting (ctX6_waiting B fu x18 s0) kd_0 ⟨rfl, by decide⟩ rfl rfl ⟨rfl, rfl, by decide, by decide⟩ (Nat.le_of_ble_eq_true rfl) (fun x19 s12 => ?_)
                      refine s_aload_n 2 dL_law_375 rfl rfl ?_
                      refine s_aload_n 0 dL_law_376 rfl rfl ?_
                      refine s_iload 4 dL_law_377 rfl ?_
                      refine s_iconst dL_law_379 ?_
                      refine s_iadd dL_law_380 ?_
                      refine s_sld hX hbB hB dL_law_381 (fun x20 => ?_)
                      refine s_Vi (rest := [iv x19]) dL_law_382 lk_L_45 meX7_waiting (ctX7_waiting B fu x20 s12) kd_328 ⟨rfl, by decide⟩ rfl rfl ⟨rfl, rfl, by decide, by decide⟩ (Nat.le_of_ble_eq_true rfl) (fun x21 s13 => ?_)
                      refine s_icmp_eq (tgt := 1838) dL_law_385 (by decide) ?_ ?_
                      · exact s_sub [0, 1, 2, 3, 4] rfl (hj1 cs sl (Nat.le_succ _) (Nat.le_add_right _ _) s13)
                      · refine s_iconst dL_law_388 ?_
                        exact s_none
                    · refine s_ite1 (fun h6 => ?_) ?_
                      · refine s_tabI (tgt := 390) dL_law_39 6 h6 (by decide) (by decide) rfl (by decide) ?_
                        refine s_aload_n 1 dL_law_390 rfl rfl ?_
                        refine s_aload_n 0 dL_law_391 rfl rfl ?_
                        refine s_iload 4 dL_law_392 rfl ?_
                        refine s_iconst dL_law_394 ?_
                        refine s_iadd dL_law_395 ?_
                        refine s_sld hX hbB hB dL_law_396 (fun x22 => ?_)
                        refine s_Vi (rest := []) dL_law_397 lk_L_46 meX6_goal (ctX6_goal B fu x22 s0) kd_0 ⟨rfl, by decide⟩ rfl rfl ⟨rfl, rfl, by decide, by decide⟩ (Nat.le_of_ble_eq_true rfl) (fun x23 s14 => ?_)
                        refine s_aload_n 2 dL_law_400 rfl rfl ?_
                        refine s_aload_n 0 dL_law_401 rfl rfl ?_
                        refine s_iload 4 dL_law_402 rfl ?_
                        refine s_iconst dL_law_404 ?_
                        refine s_iadd dL_law_405 ?_
                        refine s_sld hX hbB hB dL_law_406 (fun x24 => ?_)
                        refine s_Vi (rest := [iv x23]) dL_law_407 lk_L_49 meX7_goal (ctX7_goal B fu x24 s14) kd_328 ⟨rfl, by decide⟩ rfl rfl ⟨rfl, rfl, by decide, by decide⟩ (Nat.le_of_ble_eq_true rfl) (fun x25 s15 => ?_)
                        refine s_icmp_eq (tgt := 1838) dL_law_410 (by decide) ?_ ?_
                        · exact s_sub [0, 1, 2, 3, 4] rfl (hj1 cs sl (Nat.le_succ _) (Nat.le_add_right _ _) s15)
                        · refine s_iconst dL_law_413 ?_
                          exact s_none
                      · refine s_ite1 (fun h7 => ?_) ?_
                        · refine s_tabI (tgt := 415) dL_law_39 7 h7 (by decide) (by decide) rfl (by decide) ?_
                          refine s_aload_n 1 dL_law_415 rfl rfl ?_
                          refine s_aload_n 0 dL_law_416 rfl rfl ?_
                          refine s_iload 4 dL_law_417 rfl ?_
                          refine s_iconst dL_law_419 ?_
                          refine s_iadd dL_law_420 ?_
                          refine s_sld hX hbB hB dL_law_421 (fun x26 => ?_)
                          refine s_aload_n 0 dL_law_422 rfl rfl ?_
                          refine s_iload 4 dL_law_423 rfl ?_
                          refine s_iconst dL_law_425 ?_
                          refine s_iadd dL_law_426 ?_
                          refine s_sld hX hbB hB dL_law_427 (fun x27 => ?_)
                          refine s_Vi (rest := []) dL_law_428 lk_L_50 meX6_riders (ctX6_riders B fu x26 x27 s0) kd_0 ⟨rfl, by decide⟩ rfl rfl ⟨rfl, rfl, by decide, by decide⟩ (Nat.le_of_ble_eq_true rfl) (fun x28 s16 => ?_)
                          refine s_aload_n 2 dL_law_431 rfl rfl ?_
                          refine s_aload_n 0 dL_law_432 rfl rfl ?_
                          refine s_iload 4 dL_law_433 rfl ?_
                          refine s_iconst dL_law_435 ?_
                          refine s_iadd dL_law_436 ?_
                          refine s_sld hX hbB hB dL_law_437 (fun x29 => ?_)
                          refine s_aload_n 0 dL_law_438 rfl rfl ?_
                          refine s_iload 4 dL_law_439 rfl ?_
                          refine s_iconst dL_law_441 ?_
                          refine s_iadd dL_law_442 ?_
                          refine s_sld hX hbB hB dL_law_443 (fun x30 => ?_)
                          refine s_Vi (rest := [iv x28]) dL_law_444 lk_L_54 meX7_riders (ctX7_riders B fu x29 x30 s16) kd_328 ⟨rfl, by decide⟩ rfl rfl ⟨rfl, rfl, by decide, by decide⟩ (Nat.le_of_ble_eq_true rfl) (fun x31 s17 => ?_)
                          refine s_icmp_eq (tgt := 1838) dL_law_447 (by decide) ?_ ?_
                          · exact s_sub [0, 1, 2, 3, 4] rfl (hj1 cs sl (Nat.le_succ _) (Nat.le_add_right _ _) s17)
                          · refine s_iconst dL_law_450 ?_
                            exact s_none
                        · refine s_ite1 (fun h8 => ?_) ?_
                          · refine s_tabI (tgt := 452) dL_law_39 8 h8 (by decide) (by decide) rfl (by decide) ?_
                            refine s_aload_n 1 dL_law_452 rfl rfl ?_
                            refine s_aload_n 0 dL_law_453 rfl rfl ?_
                            refine s_iload 4 dL_law_454 rfl ?_
                            refine s_iconst dL_law_456 ?_
                            refine s_iadd dL_law_457 ?_
                            refine s_sld hX hbB hB dL_law_458 (fun x32 => ?_)
                            refine s_aload_n 0 dL_law_459 rfl rfl ?_
                            refine s_iload 4 dL_law_460 rfl ?_
                            refine s_iconst dL_law_462 ?_
                            refine s_iadd dL_law_463 ?_
                            refine s_sld hX hbB hB dL_law_464 (fun x33 => ?_)
                            refine s_jn (fun (j2 : Int → Mem → PR) => ∀ (cs9 sl9 : Nat) (_ : cs9 ≤ cs + 1) (_ : sl9 ≤ sl + 6) (x34 : Int) (s23 : Mem), Sim cL_law RL 8 room_1 B (XLaw p l e s m b below meth c D ca cs9 sl9) (j2 x34 s23) s23 473 [(0, .ref b), (1, rv B 0), (2, rv B 328), (3, rv B 361), (4, iv x0)] [iv x34, iv x32, rv B 0]) ?_ (fun j2 hj2 => ?_)
                            · intro cs9 sl9 hcs9 hsl9 x34 s18
                              refine s_Vi (rest := []) dL_law_473 lk_L_55 meX6_out (ctX6_out B fu x32 x34 s18) kd_0 ⟨rfl, by decide⟩ rfl rfl ⟨rfl, rfl, by decide, by decide⟩ (Nat.le_of_ble_eq_true rfl) (fun x35 s19 => ?_)
                              refine s_aload_n 2 dL_law_476 rfl rfl ?_
                              refine s_aload_n 0 dL_law_477 rfl rfl ?_
                              refine s_iload 4 dL_law_478 rfl ?_
                              refine s_iconst dL_law_480 ?_
                              refine s_iadd dL_law_481 ?_
                              refine s_sld hX hbB hB dL_law_482 (fun x36 => ?_)
                              refine s_aload_n 0 dL_law_483 rfl rfl ?_
                              refine s_iload 4 dL_law_484 rfl ?_
                              refine s_iconst dL_law_486 ?_
                              refine s_iadd dL_law_487 ?_
                              refine s_sld hX hbB hB dL_law_488 (fun x37 => ?_)
                              refine s_jn (fun (j3 : Int → Mem → PR) => ∀ (cs9 sl9 : Nat) (_ : cs9 ≤ cs + 1) (_ : sl9 ≤ sl + 6) (x38 : Int) (s22 : Mem), Sim cL_law RL 8 room_1 B (XLaw p l e s m b below meth c D ca cs9 sl9) (j3 x38 s22) s22 497 [(0, .ref b), (1, rv B 0), (2, rv B 328), (3, rv B 361), (4, iv x0)] [iv x38, iv x36, rv B 328, iv x35]) ?_ (fun j3 hj3 => ?_)
                              · intro cs9 sl9 hcs9 hsl9 x38 s20
                                refine s_Vi (rest := [iv x35]) dL_law_497 lk_L_59 meX7_out (ctX7_out B fu x36 x38 s20) kd_328 ⟨rfl, by decide⟩ rfl rfl ⟨rfl, rfl, by decide, by decide⟩ (Nat.le_of_ble_eq_true rfl) (fun x39 s21 => ?_)
                                refine s_icmp_eq (tgt := 1838) dL_law_500 (by decide) ?_ ?_
                                · exact s_sub [0, 1, 2, 3, 4] rfl (hj1 cs9 sl9 hcs9 hsl9 s21)
                                · refine s_iconst dL_law_503 ?_
                                  exact s_none
                              · refine s_if_eq (tgt := 496) dL_law_489 (by decide) ?_ ?_
                                · refine s_iconst dL_law_496 ?_
                                  exact s_sub [0, 1, 2, 3, 4] rfl (hj3 cs9 sl9 hcs9 hsl9 0 s19)
                                · refine s_iconst dL_law_492 ?_
                                  refine s_goto (tgt := 497) dL_law_493 (by decide) ?_
                                  exact s_sub [0, 1, 2, 3, 4] rfl (hj3 cs9 sl9 hcs9 hsl9 1 s19)
                            · refine s_if_eq (tgt := 472) dL_law_465 (by decide) ?_ ?_
                              · refine s_iconst dL_law_472 ?_
                                exact s_sub [0, 1, 2, 3, 4] rfl (hj2 cs sl (Nat.le_succ _) (Nat.le_add_right _ _) 0 s0)
                              · refine s_iconst dL_law_468 ?_
                                refine s_goto (tgt := 473) dL_law_469 (by decide) ?_
                                exact s_sub [0, 1, 2, 3, 4] rfl (hj2 cs sl (Nat.le_succ _) (Nat.le_add_right _ _) 1 s0)
                          · refine s_ite1 (fun h9 => ?_) ?_
                            · refine s_tabI (tgt := 505) dL_law_39 9 h9 (by decide) (by decide) rfl (by decide) ?_
                              refine s_aload_n 1 dL_law_505 rfl rfl ?_
                              refine s_aload_n 0 dL_law_506 rfl rfl ?_
                              refine s_iload 4 dL_law_507 rfl ?_
                              refine s_iconst dL_law_509 ?_
                              refine s_iadd dL_law_510 ?_
                              refine s_sld hX hbB hB dL_law_511 (fun x40 => ?_)
                              refine s_aload_n 0 dL_law_512 rfl rfl ?_
                              refine s_iload 4 dL_law_513 rfl ?_
                              refine s_iconst dL_law_515 ?_
                              refine s_iadd dL_law_516 ?_
                              refine s_sld hX hbB hB dL_law_517 (fun x41 => ?_)
                              refine s_jn (fun (j4 : Int → Mem → PR) => ∀ (cs9 sl9 : Nat) (_ : cs9 ≤ cs + 1) (_ : sl9 ≤ sl + 6) (x42 : Int) (s29 : Mem), Sim cL_law RL 8 room_1 B (XLaw p l e s m b below meth c D ca cs9 sl9) (j4 x42 s29) s29 526 [(0, .ref b), (1, rv B 0), (2, rv B 328), (3, rv B 361), (4, iv x0)] [iv x42, iv x40, rv B 0]) ?_ (fun j4 hj4 => ?_)
                              · intro cs9 sl9 hcs9 hsl9 x42 s24
                                refine s_Vi (rest := []) dL_law_526 lk_L_60 meX6_closes (ctX6_closes B fu x40 x42 s24) kd_0 ⟨rfl, by decide⟩ rfl rfl ⟨rfl, rfl, by decide, by decide⟩ (Nat.le_of_ble_eq_true rfl) (fun x43 s25 => ?_)
                                refine s_aload_n 2 dL_law_529 rfl rfl ?_
                                refine s_aload_n 0 dL_law_530 rfl rfl ?_
                                refine s_iload 4 dL_law_531 rfl ?_
                                refine s_iconst dL_law_533 ?_
                                refine s_iadd dL_law_534 ?_
                                refine s_sld hX hbB hB dL_law_535 (fun x44 => ?_)
                                refine s_aload_n 0 dL_law_536 rfl rfl ?_
                                refine s_iload 4 dL_law_537 rfl ?_
                                refine s_iconst dL_law_539 ?_
                                refine s_iadd dL_law_540 ?_
                                refine s_sld hX hbB hB dL_law_541 (fun x45 => ?_)
                                refine s_jn (fun (j5 : Int → Mem → PR) => ∀ (cs9 sl9 : Nat) (_ : cs9 ≤ cs + 1) (_ : sl9 ≤ sl + 6) (x46 : Int) (s28 : Mem), Sim cL_law RL 8 room_1 B (XLaw p l e s m b below meth c D ca cs9 sl9) (j5 x46 s28) s28 550 [(0, .ref b), (1, rv B 0), (2, rv B 328), (3, rv B 361), (4, iv x0)] [iv x46, iv x44, rv B 328, iv x43]) ?_ (fun j5 hj5 => ?_)
                                · intro cs9 sl9 hcs9 hsl9 x46 s26
                                  refine s_Vi (rest := [iv x43]) dL_law_550 lk_L_63 meX7_closes (ctX7_closes B fu x44 x46 s26) kd_328 ⟨rfl, by decide⟩ rfl rfl ⟨rfl, rfl, by decide, by decide⟩ (Nat.le_of_ble_eq_true rfl) (fun x47 s27 => ?_)
                                  refine s_icmp_eq (tgt := 1838) dL_law_553 (by decide) ?_ ?_
                                  · exact s_sub [0, 1, 2, 3, 4] rfl (hj1 cs9 sl9 hcs9 hsl9 s27)
                                  · refine s_iconst dL_law_556 ?_
                                    exact s_none
                                · refine s_if_eq (tgt := 549) dL_law_542 (by decide) ?_ ?_
                                  · refine s_iconst dL_law_549 ?_
                                    exact s_sub [0, 1, 2, 3, 4] rfl (hj5 cs9 sl9 hcs9 hsl9 0 s25)
                                  · refine s_iconst dL_law_545 ?_
                                    refine s_goto (tgt := 550) dL_law_546 (by decide) ?_
                                    exact s_sub [0, 1, 2, 3, 4] rfl (hj5 cs9 sl9 hcs9 hsl9 1 s25)
                              · refine s_if_eq (tgt := 525) dL_law_518 (by decide) ?_ ?_
                                · refine s_iconst dL_law_525 ?_
                                  exact s_sub [0, 1, 2, 3, 4] rfl (hj4 cs sl (Nat.le_succ _) (Nat.le_add_right _ _) 0 s0)
                                · refine s_iconst dL_law_521 ?_
                                  refine s_goto (tgt := 526) dL_law_522 (by decide) ?_
                                  exact s_sub [0, 1, 2, 3, 4] rfl (hj4 cs sl (Nat.le_succ _) (Nat.le_add_right _ _) 1 s0)
                            · refine s_ite1 (fun h10 => ?_) ?_
                              · refine s_tabI (tgt := 558) dL_law_39 10 h10 (by decide) (by decide) rfl (by decide) ?_
                                refine s_aload_n 1 dL_law_558 rfl rfl ?_
                                refine s_aload_n 0 dL_law_559 rfl rfl ?_
                                refine s_iload 4 dL_law_560 rfl ?_
                                refine s_iconst dL_law_562 ?_
                                refine s_iadd dL_law_563 ?_
                                refine s_sld hX hbB hB dL_law_564 (fun x48 => ?_)
                                refine s_aload_n 0 dL_law_565 rfl rfl ?_
                                refine s_iload 4 dL_law_566 rfl ?_
                                refine s_iconst dL_law_568 ?_
                                refine s_iadd dL_law_569 ?_
                                refine s_sld hX hbB hB dL_law_570 (fun x49 => ?_)
                                refine s_Vi (rest := []) dL_law_571 lk_L_64 meX6_often (ctX6_often B fu x48 x49 s0) kd_0 ⟨rfl, by decide⟩ rfl rfl ⟨rfl, rfl, by decide, by decide⟩ (Nat.le_of_ble_eq_true rfl) (fun x50 s30 => ?_)
                                refine s_aload_n 2 dL_law_574 rfl rfl ?_
                                refine s_aload_n 0 dL_law_575 rfl rfl ?_
                                refine s_iload 4 dL_law_576 rfl ?_
                                refine s_iconst dL_law_578 ?_
                                refine s_iadd dL_law_579 ?_
                                refine s_sld hX hbB hB dL_law_580 (fun x51 => ?_)
                                refine s_aload_n 0 dL_law_581 rfl rfl ?_
                                refine s_iload 4 dL_law_582 rfl ?_
                                refine s_iconst dL_law_584 ?_
                                refine s_iadd dL_law_585 ?_
                                refine s_sld hX hbB hB dL_law_586 (fun x52 => ?_)
                                refine s_Vi (rest := [iv x50]) dL_law_587 lk_L_67 meX7_often (ctX7_often B fu x51 x52 s30) kd_328 ⟨rfl, by decide⟩ rfl rfl ⟨rfl, rfl, by decide, by decide⟩ (Nat.le_of_ble_eq_true rfl) (fun x53 s31 => ?_)
                                refine s_icmp_eq (tgt := 1838) dL_law_590 (by decide) ?_ ?_
                                · exact s_sub [0, 1, 2, 3, 4] rfl (hj1 cs sl (Nat.le_succ _) (Nat.le_add_right _ _) s31)
                                · refine s_iconst dL_law_593 ?_
                                  exact s_none
                              · refine s_ite1 (fun h11 => ?_) ?_
                                · refine s_tabI (tgt := 595) dL_law_39 11 h11 (by decide) (by decide) rfl (by decide) ?_
                                  refine s_aload_n 1 dL_law_595 rfl rfl ?_
                                  refine s_aload_n 0 dL_law_596 rfl rfl ?_
                                  refine s_iload 4 dL_law_597 rfl ?_
                                  refine s_iconst dL_law_599 ?_
                                  refine s_iadd dL_law_600 ?_
                                  refine s_sld hX hbB hB dL_law_601 (fun x54 => ?_)
                                  refine s_aload_n 0 dL_law_602 rfl rfl ?_
                                  refine s_iload 4 dL_law_603 rfl ?_
                                  refine s_iconst dL_law_605 ?_
                                  refine s_iadd dL_law_606 ?_
                                  refine s_sld hX hbB hB dL_law_607 (fun x55 => ?_)
                                  refine s_Vi (rest := []) dL_law_608 lk_L_68 meX6_line (ctX6_line B fu x54 x55 s0) kd_0 ⟨rfl, by decide⟩ rfl rfl ⟨rfl, rfl, by decide, by decide⟩ (Nat.le_of_ble_eq_true rfl) (fun x56 s32 => ?_)
                                  refine s_aload_n 2 dL_law_611 rfl rfl ?_
                                  refine s_aload_n 0 dL_law_612 rfl rfl ?_
                                  refine s_iload 4 dL_law_613 rfl ?_
                                  refine s_iconst dL_law_615 ?_
                                  refine s_iadd dL_law_616 ?_
                                  refine s_sld hX hbB hB dL_law_617 (fun x57 => ?_)
                                  refine s_aload_n 0 dL_law_618 rfl rfl ?_
                                  refine s_iload 4 dL_law_619 rfl ?_
                                  refine s_iconst dL_law_621 ?_
                                  refine s_iadd dL_law_622 ?_
                                  refine s_sld hX hbB hB dL_law_623 (fun x58 => ?_)
                                  refine s_Vi (rest := [iv x56]) dL_law_624 lk_L_71 meX7_line (ctX7_line B fu x57 x58 s32) kd_328 ⟨rfl, by decide⟩ rfl rfl ⟨rfl, rfl, by decide, by decide⟩ (Nat.le_of_ble_eq_true rfl) (fun x59 s33 => ?_)
                                  refine s_icmp_eq (tgt := 1838) dL_law_627 (by decide) ?_ ?_
                                  · exact s_sub [0, 1, 2, 3, 4] rfl (hj1 cs sl (Nat.le_succ _) (Nat.le_add_right _ _) s33)
                                  · refine s_iconst dL_law_630 ?_
                                    exact s_none
                                · refine s_ite1 (fun h12 => ?_) ?_
                                  · refine s_tabI (tgt := 632) dL_law_39 12 h12 (by decide) (by decide) rfl (by decide) ?_
                                    refine s_aload_n 1 dL_law_632 rfl rfl ?_
                                    refine s_aload_n 0 dL_law_633 rfl rfl ?_
                                    refine s_iload 4 dL_law_634 rfl ?_
                                    refine s_iconst dL_law_636 ?_
                                    refine s_iadd dL_law_637 ?_
                                    refine s_sld hX hbB hB dL_law_638 (fun x60 => ?_)
                                    refine s_aload_n 0 dL_law_639 rfl rfl ?_
                                    refine s_iload 4 dL_law_640 rfl ?_
                                    refine s_iconst dL_law_642 ?_
                                    refine s_iadd dL_law_643 ?_
                                    refine s_sld hX hbB hB dL_law_644 (fun x61 => ?_)
                                    refine s_Vi (rest := []) dL_law_645 lk_L_72 meX6_stop (ctX6_stop B fu x60 x61 s0) kd_0 ⟨rfl, by decide⟩ rfl rfl ⟨rfl, rfl, by decide, by decide⟩ (Nat.le_of_ble_eq_true rfl) (fun x62 s34 => ?_)
                                    refine s_aload_n 2 dL_law_648 rfl rfl ?_
                                    refine s_aload_n 0 dL_law_649 rfl rfl ?_
                                    refine s_iload 4 dL_law_650 rfl ?_
                                    refine s_iconst dL_law_652 ?_
                                    refine s_iadd dL_law_653 ?_
                                    refine s_sld hX hbB hB dL_law_654 (fun x63 => ?_)
                                    refine s_aload_n 0 dL_law_655 rfl rfl ?_
                                    refine s_iload 4 dL_law_656 rfl ?_
                                    refine s_iconst dL_law_658 ?_
                                    refine s_iadd dL_law_659 ?_
                                    refine s_sld hX hbB hB dL_law_660 (fun x64 => ?_)
                                    refine s_Vi (rest := [iv x62]) dL_law_661 lk_L_75 meX7_stop (ctX7_stop B fu x63 x64 s34) kd_328 ⟨rfl, by decide⟩ rfl rfl ⟨rfl, rfl, by decide, by decide⟩ (Nat.le_of_ble_eq_true rfl) (fun x65 s35 => ?_)
                                    refine s_icmp_eq (tgt := 1838) dL_law_664 (by decide) ?_ ?_
                                    · exact s_sub [0, 1, 2, 3, 4] rfl (hj1 cs sl (Nat.le_succ _) (Nat.le_add_right _ _) s35)
                                    · refine s_iconst dL_law_667 ?_
                                      exact s_none
                                  · refine s_ite1 (fun h13 => ?_) ?_
                                    · refine s_tabI (tgt := 669) dL_law_39 13 h13 (by decide) (by decide) rfl (by decide) ?_
                                      refine s_aload_n 1 dL_law_669 rfl rfl ?_
                                      refine s_aload_n 0 dL_law_670 rfl rfl ?_
                                      refine s_iload 4 dL_law_671 rfl ?_
                                      refine s_iconst dL_law_673 ?_
                                      refine s_iadd dL_law_674 ?_
                                      refine s_sld hX hbB hB dL_law_675 (fun x66 => ?_)
                                      refine s_Vi (rest := []) dL_law_676 lk_L_76 meX6_cost (ctX6_cost B fu x66 s0) kd_0 ⟨rfl, by decide⟩ rfl rfl ⟨rfl, rfl, by decide, by decide⟩ (Nat.le_of_ble_eq_true rfl) (fun x67 s36 => ?_)
                                      refine s_aload_n 2 dL_law_679 rfl rfl ?_
                                      refine s_aload_n 0 dL_law_680 rfl rfl ?_
                                      refine s_iload 4 dL_law_681 rfl ?_
                                      refine s_iconst dL_law_683 ?_
                                      refine s_iadd dL_law_684 ?_
                                      refine s_sld hX hbB hB dL_law_685 (fun x68 => ?_)
                                      refine s_Vi (rest := [iv x67]) dL_law_686 lk_L_79 meX7_cost (ctX7_cost B fu x68 s36) kd_328 ⟨rfl, by decide⟩ rfl rfl ⟨rfl, rfl, by decide, by decide⟩ (Nat.le_of_ble_eq_true rfl) (fun x69 s37 => ?_)
                                      refine s_icmp_eq (tgt := 1838) dL_law_689 (by decide) ?_ ?_
                                      · exact s_sub [0, 1, 2, 3, 4] rfl (hj1 cs sl (Nat.le_succ _) (Nat.le_add_right _ _) s37)
                                      · refine s_iconst dL_law_692 ?_
                                        exact s_none
                                    · refine s_ite1 (fun h14 => ?_) ?_
                                      · refine s_tabI (tgt := 694) dL_law_39 14 h14 (by decide) (by decide) rfl (by decide) ?_
                                        refine s_aload_n 1 dL_law_694 rfl rfl ?_
                                        refine s_Vi (rest := []) dL_law_695 lk_L_80 meX6_rounds (ctX6_rounds B fu s0) kd_0 ⟨rfl, by decide⟩ rfl rfl ⟨rfl, rfl, by decide, by decide⟩ (Nat.le_of_ble_eq_true rfl) (fun x70 s38 => ?_)
                                        refine s_aload_n 2 dL_law_698 rfl rfl ?_
                                        refine s_Vi (rest := [iv x70]) dL_law_699 lk_L_83 meX7_rounds (ctX7_rounds B fu s38) kd_328 ⟨rfl, by decide⟩ rfl rfl ⟨rfl, rfl, by decide, by decide⟩ (Nat.le_of_ble_eq_true rfl) (fun x71 s39 => ?_)
                                        refine s_icmp_eq (tgt := 1838) dL_law_702 (by decide) ?_ ?_
                                        · exact s_sub [0, 1, 2, 3, 4] rfl (hj1 cs sl (Nat.le_succ _) (Nat.le_add_right _ _) s39)
                                        · refine s_iconst dL_law_705 ?_
                                          exact s_none
                                      · refine s_ite1 (fun h15 => ?_) ?_
                                        · refine s_tabI (tgt := 707) dL_law_39 15 h15 (by decide) (by decide) rfl (by decide) ?_
                                          refine s_aload_n 1 dL_law_707 rfl rfl ?_
                                          refine s_aload_n 0 dL_law_708 rfl rfl ?_
                                          refine s_iload 4 dL_law_709 rfl ?_
                                          refine s_iconst dL_law_711 ?_
                                          refine s_iadd dL_law_712 ?_
                                          refine s_sld hX hbB hB dL_law_713 (fun x72 => ?_)
                                          refine s_Vi (rest := []) dL_law_714 lk_L_84 meX6_chosen (ctX6_chosen B fu x72 s0) kd_0 ⟨rfl, by decide⟩ rfl rfl ⟨rfl, rfl, by decide, by decide⟩ (Nat.le_of_ble_eq_true rfl) (fun x73 s40 => ?_)
                                          refine s_aload_n 2 dL_law_717 rfl rfl ?_
                                          refine s_aload_n 0 dL_law_718 rfl rfl ?_
                                          refine s_iload 4 dL_law_719 rfl ?_
                                          refine s_iconst dL_law_721 ?_
                                          refine s_iadd dL_law_722 ?_
                                          refine s_sld hX hbB hB dL_law_723 (fun x74 => ?_)
                                          refine s_Vi (rest := [iv x73]) dL_law_724 lk_L_87 meX7_chosen (ctX7_chosen B fu x74 s40) kd_328 ⟨rfl, by decide⟩ rfl rfl ⟨rfl, rfl, by decide, by decide⟩ (Nat.le_of_ble_eq_true rfl) (fun x75 s41 => ?_)
                                          refine s_icmp_eq (tgt := 1838) dL_law_727 (by decide) ?_ ?_
                                          · exact s_sub [0, 1, 2, 3, 4] rfl (hj1 cs sl (Nat.le_succ _) (Nat.le_add_right _ _) s41)
                                          · refine s_iconst dL_law_730 ?_
                                            exact s_none
                                        · refine s_ite1 (fun h16 => ?_) ?_
                                          · refine s_tabI (tgt := 732) dL_law_39 16 h16 (by decide) (by decide) rfl (by decide) ?_
                                            refine s_aload_n 1 dL_law_732 rfl rfl ?_
                                            refine s_aload_n 0 dL_law_733 rfl rfl ?_
                                            refine s_iload 4 dL_law_734 rfl ?_
                                            refine s_iconst dL_law_736 ?_
                                            refine s_iadd dL_law_737 ?_
                                            refine s_sld hX hbB hB dL_law_738 (fun x76 => ?_)
                                            refine s_aload_n 0 dL_law_739 rfl rfl ?_
                                            refine s_iload 4 dL_law_740 rfl ?_
                                            refine s_iconst dL_law_742 ?_
                                            refine s_iadd dL_law_743 ?_
                                            refine s_sld hX hbB hB dL_law_744 (fun x77 => ?_)
                                            refine s_Vi (rest := []) dL_law_745 lk_L_88 meX6_boarding (ctX6_boarding B fu x76 x77 s0) kd_0 ⟨rfl, by decide⟩ rfl rfl ⟨rfl, rfl, by decide, by decide⟩ (Nat.le_of_ble_eq_true rfl) (fun x78 s42 => ?_)
                                            refine s_aload_n 2 dL_law_748 rfl rfl ?_
                                            refine s_aload_n 0 dL_law_749 rfl rfl ?_
                                            refine s_iload 4 dL_law_750 rfl ?_
                                            refine s_iconst dL_law_752 ?_
                                            refine s_iadd dL_law_753 ?_
                                            refine s_sld hX hbB hB dL_law_754 (fun x79 => ?_)
                                            refine s_aload_n 0 dL_law_755 rfl rfl ?_
                                            refine s_iload 4 dL_law_756 rfl ?_
                                            refine s_iconst dL_law_758 ?_
                                            refine s_iadd dL_law_759 ?_
                                            refine s_sld hX hbB hB dL_law_760 (fun x80 => ?_)
                                            refine s_Vi (rest := [iv x78]) dL_law_761 lk_L_91 meX7_boarding (ctX7_boarding B fu x79 x80 s42) kd_328 ⟨rfl, by decide⟩ rfl rfl ⟨rfl, rfl, by decide, by decide⟩ (Nat.le_of_ble_eq_true rfl) (fun x81 s43 => ?_)
                                            refine s_icmp_eq (tgt := 1838) dL_law_764 (by decide) ?_ ?_
                                            · exact s_sub [0, 1, 2, 3, 4] rfl (hj1 cs sl (Nat.le_succ _) (Nat.le_add_right _ _) s43)
                                            · refine s_iconst dL_law_767 ?_
                                              exact s_none
                                          · refine s_ite1 (fun h17 => ?_) ?_
                                            · refine s_tabI (tgt := 769) dL_law_39 17 h17 (by decide) (by decide) rfl (by decide) ?_
                                              refine s_aload_n 1 dL_law_769 rfl rfl ?_
                                              refine s_aload_n 0 dL_law_770 rfl rfl ?_
                                              refine s_iload 4 dL_law_771 rfl ?_
                                              refine s_iconst dL_law_773 ?_
                                              refine s_iadd dL_law_774 ?_
                                              refine s_sld hX hbB hB dL_law_775 (fun x82 => ?_)
                                              refine s_aload_n 0 dL_law_776 rfl rfl ?_
                                              refine s_iload 4 dL_law_777 rfl ?_
                                              refine s_iconst dL_law_779 ?_
                                              refine s_iadd dL_law_780 ?_
                                              refine s_sld hX hbB hB dL_law_781 (fun x83 => ?_)
                                              refine s_Vi (rest := []) dL_law_782 lk_L_92 meX6_aboard (ctX6_aboard B fu x82 x83 s0) kd_0 ⟨rfl, by decide⟩ rfl rfl ⟨rfl, rfl, by decide, by decide⟩ (Nat.le_of_ble_eq_true rfl) (fun x84 s44 => ?_)
                                              refine s_aload_n 2 dL_law_785 rfl rfl ?_
                                              refine s_aload_n 0 dL_law_786 rfl rfl ?_
                                              refine s_iload 4 dL_law_787 rfl ?_
                                              refine s_iconst dL_law_789 ?_
                                              refine s_iadd dL_law_790 ?_
                                              refine s_sld hX hbB hB dL_law_791 (fun x85 => ?_)
                                              refine s_aload_n 0 dL_law_792 rfl rfl ?_
                                              refine s_iload 4 dL_law_793 rfl ?_
                                              refine s_iconst dL_law_795 ?_
                                              refine s_iadd dL_law_796 ?_
                                              refine s_sld hX hbB hB dL_law_797 (fun x86 => ?_)
                                              refine s_Vi (rest := [iv x84]) dL_law_798 lk_L_95 meX7_aboard (ctX7_aboard B fu x85 x86 s44) kd_328 ⟨rfl, by decide⟩ rfl rfl ⟨rfl, rfl, by decide, by decide⟩ (Nat.le_of_ble_eq_true rfl) (fun x87 s45 => ?_)
                                              refine s_icmp_eq (tgt := 1838) dL_law_801 (by decide) ?_ ?_
                                              · exact s_sub [0, 1, 2, 3, 4] rfl (hj1 cs sl (Nat.le_succ _) (Nat.le_add_right _ _) s45)
                                              · refine s_iconst dL_law_804 ?_
                                                exact s_none
                                            · refine s_ite1 (fun h18 => ?_) ?_
                                              · refine s_tabI (tgt := 806) dL_law_39 18 h18 (by decide) (by decide) rfl (by decide) ?_
                                                refine s_aload_n 1 dL_law_806 rfl rfl ?_
                                                refine s_Vi (rest := []) dL_law_807 lk_L_96 meX6_worst (ctX6_worst B fu s0) kd_0 ⟨rfl, by decide⟩ rfl rfl ⟨rfl, rfl, by decide, by decide⟩ (Nat.le_of_ble_eq_true rfl) (fun x88 s46 => ?_)
                                                refine s_aload_n 2 dL_law_810 rfl rfl ?_
                                                refine s_Vi (rest := [iv x88]) dL_law_811 lk_L_99 meX7_worst (ctX7_worst B fu s46) kd_328 ⟨rfl, by decide⟩ rfl rfl ⟨rfl, rfl, by decide, by decide⟩ (Nat.le_of_ble_eq_true rfl) (fun x89 s47 => ?_)
                                                refine s_icmp_eq (tgt := 1838) dL_law_814 (by decide) ?_ ?_
                                                · exact s_sub [0, 1, 2, 3, 4] rfl (hj1 cs sl (Nat.le_succ _) (Nat.le_add_right _ _) s47)
                                                · refine s_iconst dL_law_817 ?_
                                                  exact s_none
                                              · refine s_ite1 (fun h19 => ?_) ?_
                                                · refine s_tabI (tgt := 819) dL_law_39 19 h19 (by decide) (by decide) rfl (by decide) ?_
                                                  refine s_aload_n 1 dL_law_819 rfl rfl ?_
                                                  refine s_aload_n 0 dL_law_820 rfl rfl ?_
                                                  refine s_iload 4 dL_law_821 rfl ?_
                                                  refine s_iconst dL_law_823 ?_
                                                  refine s_iadd dL_law_824 ?_
                                                  refine s_sld hX hbB hB dL_law_825 (fun x90 => ?_)
                                                  refine s_Vi (rest := []) dL_law_826 lk_L_100 meX6_wait (ctX6_wait B fu x90 s0) kd_0 ⟨rfl, by decide⟩ rfl rfl ⟨rfl, rfl, by decide, by decide⟩ (Nat.le_of_ble_eq_true rfl) (fun x91 s48 => ?_)
                                                  refine s_aload_n 2 dL_law_829 rfl rfl ?_
                                                  refine s_aload_n 0 dL_law_830 rfl rfl ?_
                                                  refine s_iload 4 dL_law_831 rfl ?_
                                                  refine s_iconst dL_law_833 ?_
                                                  refine s_iadd dL_law_834 ?_
                                                  refine s_sld hX hbB hB dL_law_835 (fun x92 => ?_)
                                                  refine s_Vi (rest := [iv x91]) dL_law_836 lk_L_103 meX7_wait (ctX7_wait B fu x92 s48) kd_328 ⟨rfl, by decide⟩ rfl rfl ⟨rfl, rfl, by decide, by decide⟩ (Nat.le_of_ble_eq_true rfl) (fun x93 s49 => ?_)
                                                  refine s_icmp_eq (tgt := 1838) dL_law_839 (by decide) ?_ ?_
                                                  · exact s_sub [0, 1, 2, 3, 4] rfl (hj1 cs sl (Nat.le_succ _) (Nat.le_add_right _ _) s49)
                                                  · refine s_iconst dL_law_842 ?_
                                                    exact s_none
                                                · refine s_ite1 (fun h20 => ?_) ?_
                                                  · refine s_tabI (tgt := 844) dL_law_39 20 h20 (by decide) (by decide) rfl (by decide) ?_
                                                    refine s_aload_n 1 dL_law_844 rfl rfl ?_
                                                    refine s_aload_n 0 dL_law_845 rfl rfl ?_
                                                    refine s_iload 4 dL_law_846 rfl ?_
                                                    refine s_iconst dL_law_848 ?_
                                                    refine s_iadd dL_law_849 ?_
                                                    refine s_sld hX hbB hB dL_law_850 (fun x94 => ?_)
                                                    refine s_Vi (rest := []) dL_law_851 lk_L_104 meX6_boards (ctX6_boards B fu x94 s0) kd_0 ⟨rfl, by decide⟩ rfl rfl ⟨rfl, rfl, by decide, by decide⟩ (Nat.le_of_ble_eq_true rfl) (fun x95 s50 => ?_)
                                                    refine s_aload_n 2 dL_law_854 rfl rfl ?_
                                                    refine s_aload_n 0 dL_law_855 rfl rfl ?_
                                                    refine s_iload 4 dL_law_856 rfl ?_
                                                    refine s_iconst dL_law_858 ?_
                                                    refine s_iadd dL_law_859 ?_
                                                    refine s_sld hX hbB hB dL_law_860 (fun x96 => ?_)
                                                    refine s_Vi (rest := [iv x95]) dL_law_861 lk_L_107 meX7_boards (ctX7_boards B fu x96 s50) kd_328 ⟨rfl, by decide⟩ rfl rfl ⟨rfl, rfl, by decide, by decide⟩ (Nat.le_of_ble_eq_true rfl) (fun x97 s51 => ?_)
                                                    refine s_icmp_eq (tgt := 1838) dL_law_864 (by decide) ?_ ?_
                                                    · exact s_sub [0, 1, 2, 3, 4] rfl (hj1 cs sl (Nat.le_succ _) (Nat.le_add_right _ _) s51)
                                                    · refine s_iconst dL_law_867 ?_
                                                      exact s_none
                                                  · refine s_ite1 (fun h21 => ?_) ?_
                                                    · refine s_tabI (tgt := 869) dL_law_39 21 h21 (by decide) (by decide) rfl (by decide) ?_
                                                      refine s_aload_n 1 dL_law_869 rfl rfl ?_
                                                      refine s_aload_n 0 dL_law_870 rfl rfl ?_
                                                      refine s_iload 4 dL_law_871 rfl ?_
                                                      refine s_iconst dL_law_873 ?_
                                                      refine s_iadd dL_law_874 ?_
                                                      refine s_sld hX hbB hB dL_law_875 (fun x98 => ?_)
                                                      refine s_aload_n 0 dL_law_876 rfl rfl ?_
                                                      refine s_iload 4 dL_law_877 rfl ?_
                                                      refine s_iconst dL_law_879 ?_
                                                      refine s_iadd dL_law_880 ?_
                                                      refine s_sld hX hbB hB dL_law_881 (fun x99 => ?_)
                                                      refine s_Vi (rest := []) dL_law_882 lk_L_108 meX6_slack (ctX6_slack B fu x98 x99 s0) kd_0 ⟨rfl, by decide⟩ rfl rfl ⟨rfl, rfl, by decide, by decide⟩ (Nat.le_of_ble_eq_true rfl) (fun x100 s52 => ?_)
                                                      refine s_aload_n 2 dL_law_885 rfl rfl ?_
                                                      refine s_aload_n 0 dL_law_886 rfl rfl ?_
                                                      refine s_iload 4 dL_law_887 rfl ?_
                                                      refine s_iconst dL_law_889 ?_
                                                      refine s_iadd dL_law_890 ?_
                                                      refine s_sld hX hbB hB dL_law_891 (fun x101 => ?_)
                                                      refine s_aload_n 0 dL_law_892 rfl rfl ?_
                                                      refine s_iload 4 dL_law_893 rfl ?_
                                                      refine s_iconst dL_law_895 ?_
                                                      refine s_iadd dL_law_896 ?_
                                                      refine s_sld hX hbB hB dL_law_897 (fun x102 => ?_)
                                                      refine s_Vi (rest := [iv x100]) dL_law_898 lk_L_111 meX7_slack (ctX7_slack B fu x101 x102 s52) kd_328 ⟨rfl, by decide⟩ rfl rfl ⟨rfl, rfl, by decide, by decide⟩ (Nat.le_of_ble_eq_true rfl) (fun x103 s53 => ?_)
                                                      refine s_icmp_eq (tgt := 1838) dL_law_901 (by decide) ?_ ?_
                                                      · exact s_sub [0, 1, 2, 3, 4] rfl (hj1 cs sl (Nat.le_succ _) (Nat.le_add_right _ _) s53)
                                                      · refine s_iconst dL_law_904 ?_
                                                        exact s_none
                                                    · refine s_ite1 (fun h22 => ?_) ?_
                                                      · refine s_tabI (tgt := 906) dL_law_39 22 h22 (by decide) (by decide) rfl (by decide) ?_
                                                        refine s_aload_n 1 dL_law_906 rfl rfl ?_
                                                        refine s_aload_n 0 dL_law_907 rfl rfl ?_
                                                        refine s_iload 4 dL_law_908 rfl ?_
                                                        refine s_iconst dL_law_910 ?_
                                                        refine s_iadd dL_law_911 ?_
                                                        refine s_sld hX hbB hB dL_law_912 (fun x104 => ?_)
                                                        refine s_Vi (rest := []) dL_law_913 lk_L_112 meX6_reach (ctX6_reach B fu x104 s0) kd_0 ⟨rfl, by decide⟩ rfl rfl ⟨rfl, rfl, by decide, by decide⟩ (Nat.le_of_ble_eq_true rfl) (fun x105 s54 => ?_)
                                                        refine s_aload_n 2 dL_law_916 rfl rfl ?_
                                                        refine s_aload_n 0 dL_law_917 rfl rfl ?_
                                                        refine s_iload 4 dL_law_918 rfl ?_
                                                        refine s_iconst dL_law_920 ?_
                                                        refine s_iadd dL_law_921 ?_
                                                        refine s_sld hX hbB hB dL_law_922 (fun x106 => ?_)
                                                        refine s_Vi (rest := [iv x105]) dL_law_923 lk_L_115 meX7_reach (ctX7_reach B fu x106 s54) kd_328 ⟨rfl, by decide⟩ rfl rfl ⟨rfl, rfl, by decide, by decide⟩ (Nat.le_of_ble_eq_true rfl) (fun x107 s55 => ?_)
                                                        refine s_icmp_eq (tgt := 1838) dL_law_926 (by decide) ?_ ?_
                                                        · exact s_sub [0, 1, 2, 3, 4] rfl (hj1 cs sl (Nat.le_succ _) (Nat.le_add_right _ _) s55)
                                                        · refine s_iconst dL_law_929 ?_
                                                          exact s_none
                                                      · refine s_ite1 (fun h23 => ?_) ?_
                                                        · refine s_tabI (tgt := 931) dL_law_39 23 h23 (by decide) (by decide) rfl (by decide) ?_
                                                          refine s_aload_n 1 dL_law_931 rfl rfl ?_
                                                          refine s_aload_n 0 dL_law_932 rfl rfl ?_
                                                          refine s_iload 4 dL_law_933 rfl ?_
                                                          refine s_iconst dL_law_935 ?_
                                                          refine s_iadd dL_law_936 ?_
                                                          refine s_sld hX hbB hB dL_law_937 (fun x108 => ?_)
                                                          refine s_aload_n 0 dL_law_938 rfl rfl ?_
                                                          refine s_iload 4 dL_law_939 rfl ?_
                                                          refine s_iconst dL_law_941 ?_
                                                          refine s_iadd dL_law_942 ?_
                                                          refine s_sld hX hbB hB dL_law_943 (fun x109 => ?_)
                                                          refine s_Vi (rest := []) dL_law_944 lk_L_116 meX6_between (ctX6_between B fu x108 x109 s0) kd_0 ⟨rfl, by decide⟩ rfl rfl ⟨rfl, rfl, by decide, by decide⟩ (Nat.le_of_ble_eq_true rfl) (fun x110 s56 => ?_)
                                                          refine s_aload_n 2 dL_law_947 rfl rfl ?_
                                                          refine s_aload_n 0 dL_law_948 rfl rfl ?_
                                                          refine s_iload 4 dL_law_949 rfl ?_
                                                          refine s_iconst dL_law_951 ?_
                                                          refine s_iadd dL_law_952 ?_
                                                          refine s_sld hX hbB hB dL_law_953 (fun x111 => ?_)
                                                          refine s_aload_n 0 dL_law_954 rfl rfl ?_
                                                          refine s_iload 4 dL_law_955 rfl ?_
                                                          refine s_iconst dL_law_957 ?_
                                                          refine s_iadd dL_law_958 ?_
                                                          refine s_sld hX hbB hB dL_law_959 (fun x112 => ?_)
                                                          refine s_Vi (rest := [iv x110]) dL_law_960 lk_L_119 meX7_between (ctX7_between B fu x111 x112 s56) kd_328 ⟨rfl, by decide⟩ rfl rfl ⟨rfl, rfl, by decide, by decide⟩ (Nat.le_of_ble_eq_true rfl) (fun x113 s57 => ?_)
                                                          refine s_icmp_eq (tgt := 1838) dL_law_963 (by decide) ?_ ?_
                                                          · exact s_sub [0, 1, 2, 3, 4] rfl (hj1 cs sl (Nat.le_succ _) (Nat.le_add_right _ _) s57)
                                                          · refine s_iconst dL_law_966 ?_
                                                            exact s_none
                                                        · refine s_ite1 (fun h24 => ?_) ?_
                                                          · refine s_tabI (tgt := 968) dL_law_39 24 h24 (by decide) (by decide) rfl (by decide) ?_
                                                            refine s_aload_n 1 dL_law_968 rfl rfl ?_
                                                            refine s_aload_n 0 dL_law_969 rfl rfl ?_
                                                            refine s_iload 4 dL_law_970 rfl ?_
                                                            refine s_iconst dL_law_972 ?_
                                                            refine s_iadd dL_law_973 ?_
                                                            refine s_sld hX hbB hB dL_law_974 (fun x114 => ?_)
                                                            refine s_aload_n 0 dL_law_975 rfl rfl ?_
                                                            refine s_iload 4 dL_law_976 rfl ?_
                                                            refine s_iconst dL_law_978 ?_
                                                            refine s_iadd dL_law_979 ?_
                                                            refine s_sld hX hbB hB dL_law_980 (fun x115 => ?_)
                                                            refine s_Vi (rest := []) dL_law_981 lk_L_120 meX6_load (ctX6_load B fu x114 x115 s0) kd_0 ⟨rfl, by decide⟩ rfl rfl ⟨rfl, rfl, by decide, by decide⟩ (Nat.le_of_ble_eq_true rfl) (fun x116 s58 => ?_)
                                                            refine s_aload_n 2 dL_law_984 rfl rfl ?_
                                                            refine s_aload_n 0 dL_law_985 rfl rfl ?_
                                                            refine s_iload 4 dL_law_986 rfl ?_
                                                            refine s_iconst dL_law_988 ?_
                                                            refine s_iadd dL_law_989 ?_
                                                            refine s_sld hX hbB hB dL_law_990 (fun x117 => ?_)
                                                            refine s_aload_n 0 dL_law_991 rfl rfl ?_
                                                            refine s_iload 4 dL_law_992 rfl ?_
                                                            refine s_iconst dL_law_994 ?_
                                                            refine s_iadd dL_law_995 ?_
                                                            refine s_sld hX hbB hB dL_law_996 (fun x118 => ?_)
                                                            refine s_Vi (rest := [iv x116]) dL_law_997 lk_L_123 meX7_load (ctX7_load B fu x117 x118 s58) kd_328 ⟨rfl, by decide⟩ rfl rfl ⟨rfl, rfl, by decide, by decide⟩ (Nat.le_of_ble_eq_true rfl) (fun x119 s59 => ?_)
                                                            refine s_icmp_eq (tgt := 1838) dL_law_1000 (by decide) ?_ ?_
                                                            · exact s_sub [0, 1, 2, 3, 4] rfl (hj1 cs sl (Nat.le_succ _) (Nat.le_add_right _ _) s59)
                                                            · refine s_iconst dL_law_1003 ?_
                                                              exact s_none
                                                          · refine s_ite1 (fun h25 => ?_) ?_
                                                            · refine s_tabI (tgt := 1005) dL_law_39 25 h25 (by decide) (by decide) rfl (by decide) ?_
                                                              refine s_aload_n 1 dL_law_1005 rfl rfl ?_
                                                              refine s_aload_n 0 dL_law_1006 rfl rfl ?_
                                                              refine s_iload 4 dL_law_1007 rfl ?_
                                                              refine s_iconst dL_law_1009 ?_
                                                              refine s_iadd dL_law_1010 ?_
                                                              refine s_sld hX hbB hB dL_law_1011 (fun x120 => ?_)
                                                              refine s_Vi (rest := []) dL_law_1012 lk_L_124 meX6_passes (ctX6_passes B fu x120 s0) kd_0 ⟨rfl, by decide⟩ rfl rfl ⟨rfl, rfl, by decide, by decide⟩ (Nat.le_of_ble_eq_true rfl) (fun x121 s60 => ?_)
                                                              refine s_aload_n 2 dL_law_1015 rfl rfl ?_
                                                              refine s_aload_n 0 dL_law_1016 rfl rfl ?_
                                                              refine s_iload 4 dL_law_1017 rfl ?_
                                                              refine s_iconst dL_law_1019 ?_
                                                              refine s_iadd dL_law_1020 ?_
                                                              refine s_sld hX hbB hB dL_law_1021 (fun x122 => ?_)
                                                              refine s_Vi (rest := [iv x121]) dL_law_1022 lk_L_127 meX7_passes (ctX7_passes B fu x122 s60) kd_328 ⟨rfl, by decide⟩ rfl rfl ⟨rfl, rfl, by decide, by decide⟩ (Nat.le_of_ble_eq_true rfl) (fun x123 s61 => ?_)
                                                              refine s_icmp_eq (tgt := 1838) dL_law_1025 (by decide) ?_ ?_
                                                              · exact s_sub [0, 1, 2, 3, 4] rfl (hj1 cs sl (Nat.le_succ _) (Nat.le_add_right _ _) s61)
                                                              · refine s_iconst dL_law_1028 ?_
                                                                exact s_none
                                                            · refine s_ite1 (fun h26 => ?_) ?_
                                                              · refine s_tabI (tgt := 1030) dL_law_39 26 h26 (by decide) (by decide) rfl (by decide) ?_
                                                                refine s_aload_n 1 dL_law_1030 rfl rfl ?_
                                                                refine s_aload_n 0 dL_law_1031 rfl rfl ?_
                                                                refine s_iload 4 dL_law_1032 rfl ?_
                                                                refine s_iconst dL_law_1034 ?_
                                                                refine s_iadd dL_law_1035 ?_
                                                                refine s_sld hX hbB hB dL_law_1036 (fun x124 => ?_)
                                                                refine s_Vi (rest := []) dL_law_1037 lk_L_128 meX6_ridden (ctX6_ridden B fu x124 s0) kd_0 ⟨rfl, by decide⟩ rfl rfl ⟨rfl, rfl, by decide, by decide⟩ (Nat.le_of_ble_eq_true rfl) (fun x125 s62 => ?_)
                                                                refine s_aload_n 2 dL_law_1040 rfl rfl ?_
                                                                refine s_aload_n 0 dL_law_1041 rfl rfl ?_
                                                                refine s_iload 4 dL_law_1042 rfl ?_
                                                                refine s_iconst dL_law_1044 ?_
                                                                refine s_iadd dL_law_1045 ?_
                                                                refine s_sld hX hbB hB dL_law_1046 (fun x126 => ?_)
                                                                refine s_Vi (rest := [iv x125]) dL_law_1047 lk_L_131 meX7_ridden (ctX7_ridden B fu x126 s62) kd_328 ⟨rfl, by decide⟩ rfl rfl ⟨rfl, rfl, by decide, by decide⟩ (Nat.le_of_ble_eq_true rfl) (fun x127 s63 => ?_)
                                                                refine s_icmp_eq (tgt := 1838) dL_law_1050 (by decide) ?_ ?_
                                                                · exact s_sub [0, 1, 2, 3, 4] rfl (hj1 cs sl (Nat.le_succ _) (Nat.le_add_right _ _) s63)
                                                                · refine s_iconst dL_law_1053 ?_
                                                                  exact s_none
                                                              · refine s_ite1 (fun h27 => ?_) ?_
                                                                · refine s_tabI (tgt := 1055) dL_law_39 27 h27 (by decide) (by decide) rfl (by decide) ?_
                                                                  refine s_aload_n 1 dL_law_1055 rfl rfl ?_
                                                                  refine s_aload_n 0 dL_law_1056 rfl rfl ?_
                                                                  refine s_iload 4 dL_law_1057 rfl ?_
                                                                  refine s_iconst dL_law_1059 ?_
                                                                  refine s_iadd dL_law_1060 ?_
                                                                  refine s_sld hX hbB hB dL_law_1061 (fun x128 => ?_)
                                                                  refine s_aload_n 0 dL_law_1062 rfl rfl ?_
                                                                  refine s_iload 4 dL_law_1063 rfl ?_
                                                                  refine s_iconst dL_law_1065 ?_
                                                                  refine s_iadd dL_law_1066 ?_
                                                                  refine s_sld hX hbB hB dL_law_1067 (fun x129 => ?_)
                                                                  refine s_Vi (rest := []) dL_law_1068 lk_L_132 meX6_boardings (ctX6_boardings B fu x128 x129 s0) kd_0 ⟨rfl, by decide⟩ rfl rfl ⟨rfl, rfl, by decide, by decide⟩ (Nat.le_of_ble_eq_true rfl) (fun x130 s64 => ?_)
                                                                  refine s_aload_n 2 dL_law_1071 rfl rfl ?_
                                                                  refine s_aload_n 0 dL_law_1072 rfl rfl ?_
                                                                  refine s_iload 4 dL_law_1073 rfl ?_
                                                                  refine s_iconst dL_law_1075 ?_
                                                                  refine s_iadd dL_law_1076 ?_
                                                                  refine s_sld hX hbB hB dL_law_1077 (fun x131 => ?_)
                                                                  refine s_aload_n 0 dL_law_1078 rfl rfl ?_
                                                                  refine s_iload 4 dL_law_1079 rfl ?_
                                                                  refine s_iconst dL_law_1081 ?_
                                                                  refine s_iadd dL_law_1082 ?_
                                                                  refine s_sld hX hbB hB dL_law_1083 (fun x132 => ?_)
                                                                  refine s_Vi (rest := [iv x130]) dL_law_1084 lk_L_135 meX7_boardings (ctX7_boardings B fu x131 x132 s64) kd_328 ⟨rfl, by decide⟩ rfl rfl ⟨rfl, rfl, by decide, by decide⟩ (Nat.le_of_ble_eq_true rfl) (fun x133 s65 => ?_)
                                                                  refine s_icmp_eq (tgt := 1838) dL_law_1087 (by decide) ?_ ?_
                                                                  · exact s_sub [0, 1, 2, 3, 4] rfl (hj1 cs sl (Nat.le_succ _) (Nat.le_add_right _ _) s65)
                                                                  · refine s_iconst dL_law_1090 ?_
                                                                    exact s_none
                                                                · refine s_ite1 (fun h28 => ?_) ?_
                                                                  · refine s_tabI (tgt := 1092) dL_law_39 28 h28 (by decide) (by decide) rfl (by decide) ?_
                                                                    refine s_aload_n 1 dL_law_1092 rfl rfl ?_
                                                                    refine s_Vl (rest := []) dL_law_1093 lk_L_136 meX6_total (ctX6_total B fu s0) kd_0 ⟨rfl, by decide⟩ rfl rfl ⟨rfl, rfl, by decide, by decide⟩ (Nat.le_of_ble_eq_true rfl) (fun x134 s66 => ?_)
                                                                    refine s_aload_n 2 dL_law_1096 rfl rfl ?_
                                                                    refine s_Vl (rest := [jv x134]) dL_law_1097 lk_L_140 meX7_total (ctX7_total B fu s66) kd_328 ⟨rfl, by decide⟩ rfl rfl ⟨rfl, rfl, by decide, by decide⟩ (Nat.le_of_ble_eq_true rfl) (fun x135 s67 => ?_)
                                                                    refine s_lif_eq (tgt := 1838) dL_law_1100 dL_law_1101 (by decide) ?_ ?_
                                                                    · exact s_sub [0, 1, 2, 3, 4] rfl (hj1 cs sl (Nat.le_succ _) (Nat.le_add_right _ _) s67)
                                                                    · refine s_iconst dL_law_1104 ?_
                                                                      exact s_none
                                                                  · refine s_ite1 (fun h29 => ?_) ?_
                                                                    · refine s_tabI (tgt := 1106) dL_law_39 29 h29 (by decide) (by decide) rfl (by decide) ?_
                                                                      refine s_aload_n 1 dL_law_1106 rfl rfl ?_
                                                                      refine s_Vi (rest := []) dL_law_1107 lk_L_141 meX6_fullest (ctX6_fullest B fu s0) kd_0 ⟨rfl, by decide⟩ rfl rfl ⟨rfl, rfl, by decide, by decide⟩ (Nat.le_of_ble_eq_true rfl) (fun x136 s68 => ?_)
                                                                      refine s_aload_n 2 dL_law_1110 rfl rfl ?_
                                                                      refine s_Vi (rest := [iv x136]) dL_law_1111 lk_L_144 meX7_fullest (ctX7_fullest B fu s68) kd_328 ⟨rfl, by decide⟩ rfl rfl ⟨rfl, rfl, by decide, by decide⟩ (Nat.le_of_ble_eq_true rfl) (fun x137 s69 => ?_)
                                                                      refine s_icmp_eq (tgt := 1838) dL_law_1114 (by decide) ?_ ?_
                                                                      · exact s_sub [0, 1, 2, 3, 4] rfl (hj1 cs sl (Nat.le_succ _) (Nat.le_add_right _ _) s69)
                                                                      · refine s_iconst dL_law_1117 ?_
                                                                        exact s_none
                                                                    · refine s_ite1 (fun h30 => ?_) ?_
                                                                      · refine s_tabI (tgt := 1119) dL_law_39 30 h30 (by decide) (by decide) rfl (by decide) ?_
                                                                        refine s_aload_n 1 dL_law_1119 rfl rfl ?_
                                                                        refine s_Vi (rest := []) dL_law_1120 lk_L_145 meX6_changes (ctX6_changes B fu s0) kd_0 ⟨rfl, by decide⟩ rfl rfl ⟨rfl, rfl, by decide, by decide⟩ (Nat.le_of_ble_eq_true rfl) (fun x138 s70 => ?_)
                                                                        refine s_aload_n 2 dL_law_1123 rfl rfl ?_
                                                                        refine s_Vi (rest := [iv x138]) dL_law_1124 lk_L_148 meX7_changes (ctX7_changes B fu s70) kd_328 ⟨rfl, by decide⟩ rfl rfl ⟨rfl, rfl, by decide, by decide⟩ (Nat.le_of_ble_eq_true rfl) (fun x139 s71 => ?_)
                                                                        refine s_icmp_eq (tgt := 1838) dL_law_1127 (by decide) ?_ ?_
                                                                        · exact s_sub [0, 1, 2, 3, 4] rfl (hj1 cs sl (Nat.le_succ _) (Nat.le_add_right _ _) s71)
                                                                        · refine s_iconst dL_law_1130 ?_
                                                                          exact s_none
                                                                      · refine s_ite1 (fun h31 => ?_) ?_
                                                                        · refine s_tabI (tgt := 1132) dL_law_39 31 h31 (by decide) (by decide) rfl (by decide) ?_
                                                                          refine s_aload_n 1 dL_law_1132 rfl rfl ?_
                                                                          refine s_aload_n 0 dL_law_1133 rfl rfl ?_
                                                                          refine s_iload 4 dL_law_1134 rfl ?_
                                                                          refine s_iconst dL_law_1136 ?_
                                                                          refine s_iadd dL_law_1137 ?_
                                                                          refine s_sld hX hbB hB dL_law_1138 (fun x140 => ?_)
                                                                          refine s_Vi (rest := []) dL_law_1139 lk_L_149 meX6_crowd (ctX6_crowd B fu x140 s0) kd_0 ⟨rfl, by decide⟩ rfl rfl ⟨rfl, rfl, by decide, by decide⟩ (Nat.le_of_ble_eq_true rfl) (fun x141 s72 => ?_)
                                                                          refine s_aload_n 2 dL_law_1142 rfl rfl ?_
                                                                          refine s_aload_n 0 dL_law_1143 rfl rfl ?_
                                                                          refine s_iload 4 dL_law_1144 rfl ?_
                                                                          refine s_iconst dL_law_1146 ?_
                                                                          refine s_iadd dL_law_1147 ?_
                                                                          refine s_sld hX hbB hB dL_law_1148 (fun x142 => ?_)
                                                                          refine s_Vi (rest := [iv x141]) dL_law_1149 lk_L_152 meX7_crowd (ctX7_crowd B fu x142 s72) kd_328 ⟨rfl, by decide⟩ rfl rfl ⟨rfl, rfl, by decide, by decide⟩ (Nat.le_of_ble_eq_true rfl) (fun x143 s73 => ?_)
                                                                          refine s_icmp_eq (tgt := 1838) dL_law_1152 (by decide) ?_ ?_
                                                                          · exact s_sub [0, 1, 2, 3, 4] rfl (hj1 cs sl (Nat.le_succ _) (Nat.le_add_right _ _) s73)
                                                                          · refine s_iconst dL_law_1155 ?_
                                                                            exact s_none
                                                                        · refine s_ite1 (fun h32 => ?_) ?_
                                                                          · refine s_tabI (tgt := 1157) dL_law_39 32 h32 (by decide) (by decide) rfl (by decide) ?_
                                                                            refine s_aload_n 1 dL_law_1157 rfl rfl ?_
                                                                            refine s_aload_n 0 dL_law_1158 rfl rfl ?_
                                                                            refine s_iload 4 dL_law_1159 rfl ?_
                                                                            refine s_iconst dL_law_1161 ?_
                                                                            refine s_iadd dL_law_1162 ?_
                                                                            refine s_sld hX hbB hB dL_law_1163 (fun x144 => ?_)
                                                                            refine s_aload_n 0 dL_law_1164 rfl rfl ?_
                                                                            refine s_iload 4 dL_law_1165 rfl ?_
                                                                            refine s_iconst dL_law_1167 ?_
                                                                            refine s_iadd dL_law_1168 ?_
                                                                            refine s_sld hX hbB hB dL_law_1169 (fun x145 => ?_)
                                                                            refine s_Vi (rest := []) dL_law_1170 lk_L_153 meX6_seats (ctX6_seats B fu x144 x145 s0) kd_0 ⟨rfl, by decide⟩ rfl rfl ⟨rfl, rfl, by decide, by decide⟩ (Nat.le_of_ble_eq_true rfl) (fun x146 s74 => ?_)
                                                                            refine s_aload_n 2 dL_law_1173 rfl rfl ?_
                                                                            refine s_aload_n 0 dL_law_1174 rfl rfl ?_
                                                                            refine s_iload 4 dL_law_1175 rfl ?_
                                                                            refine s_iconst dL_law_1177 ?_
                                                                            refine s_iadd dL_law_1178 ?_
                                                                            refine s_sld hX hbB hB dL_law_1179 (fun x147 => ?_)
                                                                            refine s_aload_n 0 dL_law_1180 rfl rfl ?_
                                                                            refine s_iload 4 dL_law_1181 rfl ?_
                                                                            refine s_iconst dL_law_1183 ?_
                                                                            refine s_iadd dL_law_1184 ?_
                                                                            refine s_sld hX hbB hB dL_law_1185 (fun x148 => ?_)
                                                                            refine s_Vi (rest := [iv x146]) dL_law_1186 lk_L_156 meX7_seats (ctX7_seats B fu x147 x148 s74) kd_328 ⟨rfl, by decide⟩ rfl rfl ⟨rfl, rfl, by decide, by decide⟩ (Nat.le_of_ble_eq_true rfl) (fun x149 s75 => ?_)
                                                                            refine s_icmp_eq (tgt := 1838) dL_law_1189 (by decide) ?_ ?_
                                                                            · exact s_sub [0, 1, 2, 3, 4] rfl (hj1 cs sl (Nat.le_succ _) (Nat.le_add_right _ _) s75)
                                                                            · refine s_iconst dL_law_1192 ?_
                                                                              exact s_none
                                                                          · refine s_ite1 (fun h33 => ?_) ?_
                                                                            · refine s_tabI (tgt := 1194) dL_law_39 33 h33 (by decide) (by decide) rfl (by decide) ?_
                                                                              refine s_aload_n 1 dL_law_1194 rfl rfl ?_
                                                                              refine s_aload_n 0 dL_law_1195 rfl rfl ?_
                                                                              refine s_iload 4 dL_law_1196 rfl ?_
                                                                              refine s_iconst dL_law_1198 ?_
                                                                              refine s_iadd dL_law_1199 ?_
                                                                              refine s_sld hX hbB hB dL_law_1200 (fun x150 => ?_)
                                                                              refine s_Vi (rest := []) dL_law_1201 lk_L_157 meX6_settles (ctX6_settles B fu x150 s0) kd_0 ⟨rfl, by decide⟩ rfl rfl ⟨rfl, rfl, by decide, by decide⟩ (Nat.le_of_ble_eq_true rfl) (fun x151 s76 => ?_)
                                                                              refine s_aload_n 2 dL_law_1204 rfl rfl ?_
                                                                              refine s_aload_n 0 dL_law_1205 rfl rfl ?_
                                                                              refine s_iload 4 dL_law_1206 rfl ?_
                                                                              refine s_iconst dL_law_1208 ?_
                                                                              refine s_iadd dL_law_1209 ?_
                                                                              refine s_sld hX hbB hB dL_law_1210 (fun x152 => ?_)
                                                                              refine s_Vi (rest := [iv x151]) dL_law_1211 lk_L_160 meX7_settles (ctX7_settles B fu x152 s76) kd_328 ⟨rfl, by decide⟩ rfl rfl ⟨rfl, rfl, by decide, by decide⟩ (Nat.le_of_ble_eq_true rfl) (fun x153 s77 => ?_)
                                                                              refine s_icmp_eq (tgt := 1838) dL_law_1214 (by decide) ?_ ?_
                                                                              · exact s_sub [0, 1, 2, 3, 4] rfl (hj1 cs sl (Nat.le_succ _) (Nat.le_add_right _ _) s77)
                                                                              · refine s_iconst dL_law_1217 ?_
                                                                                exact s_none
                                                                            · refine s_ite1 (fun h34 => ?_) ?_
                                                                              · refine s_tabI (tgt := 1219) dL_law_39 34 h34 (by decide) (by decide) rfl (by decide) ?_
                                                                                refine s_aload_n 1 dL_law_1219 rfl rfl ?_
                                                                                refine s_aload_n 0 dL_law_1220 rfl rfl ?_
                                                                                refine s_iload 4 dL_law_1221 rfl ?_
                                                                                refine s_iconst dL_law_1223 ?_
                                                                                refine s_iadd dL_law_1224 ?_
                                                                                refine s_sld hX hbB hB dL_law_1225 (fun x154 => ?_)
                                                                                refine s_aload_n 0 dL_law_1226 rfl rfl ?_
                                                                                refine s_iload 4 dL_law_1227 rfl ?_
                                                                                refine s_iconst dL_law_1229 ?_
                                                                                refine s_iadd dL_law_1230 ?_
                                                                                refine s_sld hX hbB hB dL_law_1231 (fun x155 => ?_)
                                                                                refine s_Vi (rest := []) dL_law_1232 lk_L_161 meX6_balances (ctX6_balances B fu x154 x155 s0) kd_0 ⟨rfl, by decide⟩ rfl rfl ⟨rfl, rfl, by decide, by decide⟩ (Nat.le_of_ble_eq_true rfl) (fun x156 s78 => ?_)
                                                                                refine s_aload_n 2 dL_law_1235 rfl rfl ?_
                                                                                refine s_aload_n 0 dL_law_1236 rfl rfl ?_
                                                                                refine s_iload 4 dL_law_1237 rfl ?_
                                                                                refine s_iconst dL_law_1239 ?_
                                                                                refine s_iadd dL_law_1240 ?_
                                                                                refine s_sld hX hbB hB dL_law_1241 (fun x157 => ?_)
                                                                                refine s_aload_n 0 dL_law_1242 rfl rfl ?_
                                                                                refine s_iload 4 dL_law_1243 rfl ?_
                                                                                refine s_iconst dL_law_1245 ?_
                                                                                refine s_iadd dL_law_1246 ?_
                                                                                refine s_sld hX hbB hB dL_law_1247 (fun x158 => ?_)
                                                                                refine s_Vi (rest := [iv x156]) dL_law_1248 lk_L_164 meX7_balances (ctX7_balances B fu x157 x158 s78) kd_328 ⟨rfl, by decide⟩ rfl rfl ⟨rfl, rfl, by decide, by decide⟩ (Nat.le_of_ble_eq_true rfl) (fun x159 s79 => ?_)
                                                                                refine s_icmp_eq (tgt := 1838) dL_law_1251 (by decide) ?_ ?_
                                                                                · exact s_sub [0, 1, 2, 3, 4] rfl (hj1 cs sl (Nat.le_succ _) (Nat.le_add_right _ _) s79)
                                                                                · refine s_iconst dL_law_1254 ?_
                                                                                  exact s_none
                                                                              · refine s_ite1 (fun h35 => ?_) ?_
                                                                                · refine s_tabI (tgt := 1256) dL_law_39 35 h35 (by decide) (by decide) rfl (by decide) ?_
                                                                                  refine s_aload_n 1 dL_law_1256 rfl rfl ?_
                                                                                  refine s_aload_n 0 dL_law_1257 rfl rfl ?_
                                                                                  refine s_iload 4 dL_law_1258 rfl ?_
                                                                                  refine s_iconst dL_law_1260 ?_
                                                                                  refine s_iadd dL_law_1261 ?_
                                                                                  refine s_sld hX hbB hB dL_law_1262 (fun x160 => ?_)
                                                                                  refine s_aload_n 0 dL_law_1263 rfl rfl ?_
                                                                                  refine s_iload 4 dL_law_1264 rfl ?_
                                                                                  refine s_iconst dL_law_1266 ?_
                                                                                  refine s_iadd dL_law_1267 ?_
                                                                                  refine s_sld hX hbB hB dL_law_1268 (fun x161 => ?_)
                                                                                  refine s_Vi (rest := []) dL_law_1269 lk_L_165 meX6_averaged (ctX6_averaged B fu x160 x161 s0) kd_0 ⟨rfl, by decide⟩ rfl rfl ⟨rfl, rfl, by decide, by decide⟩ (Nat.le_of_ble_eq_true rfl) (fun x162 s80 => ?_)
                                                                                  refine s_aload_n 2 dL_law_1272 rfl rfl ?_
                                                                                  refine s_aload_n 0 dL_law_1273 rfl rfl ?_
                                                                                  refine s_iload 4 dL_law_1274 rfl ?_
                                                                                  refine s_iconst dL_law_1276 ?_
                                                                                  refine s_iadd dL_law_1277 ?_
                                                                                  refine s_sld hX hbB hB dL_law_1278 (fun x163 => ?_)
                                                                                  refine s_aload_n 0 dL_law_1279 rfl rfl ?_
                                                                                  refine s_iload 4 dL_law_1280 rfl ?_
                                                                                  refine s_iconst dL_law_1282 ?_
                                                                                  refine s_iadd dL_law_1283 ?_
                                                                                  refine s_sld hX hbB hB dL_law_1284 (fun x164 => ?_)
                                                                                  refine s_Vi (rest := [iv x162]) dL_law_1285 lk_L_168 meX7_averaged (ctX7_averaged B fu x163 x164 s80) kd_328 ⟨rfl, by decide⟩ rfl rfl ⟨rfl, rfl, by decide, by decide⟩ (Nat.le_of_ble_eq_true rfl) (fun x165 s81 => ?_)
                                                                                  refine s_icmp_eq (tgt := 1838) dL_law_1288 (by decide) ?_ ?_
                                                                                  · exact s_sub [0, 1, 2, 3, 4] rfl (hj1 cs sl (Nat.le_succ _) (Nat.le_add_right _ _) s81)
                                                                                  · refine s_iconst dL_law_1291 ?_
                                                                                    exact s_none
                                                                                · refine s_ite1 (fun h36 => ?_) ?_
                                                                                  · refine s_tabI (tgt := 1293) dL_law_39 36 h36 (by decide) (by decide) rfl (by decide) ?_
                                                                                    refine s_aload_n 1 dL_law_1293 rfl rfl ?_
                                                                                    refine s_Vi (rest := []) dL_law_1294 lk_L_169 meX6_clears (ctX6_clears B fu s0) kd_0 ⟨rfl, by decide⟩ rfl rfl ⟨rfl, rfl, by decide, by decide⟩ (Nat.le_of_ble_eq_true rfl) (fun x166 s82 => ?_)
                                                                                    refine s_aload_n 2 dL_law_1297 rfl rfl ?_
                                                                                    refine s_Vi (rest := [iv x166]) dL_law_1298 lk_L_172 meX7_clears (ctX7_clears B fu s82) kd_328 ⟨rfl, by decide⟩ rfl rfl ⟨rfl, rfl, by decide, by decide⟩ (Nat.le_of_ble_eq_true rfl) (fun x167 s83 => ?_)
                                                                                    refine s_icmp_eq (tgt := 1838) dL_law_1301 (by decide) ?_ ?_
                                                                                    · exact s_sub [0, 1, 2, 3, 4] rfl (hj1 cs sl (Nat.le_succ _) (Nat.le_add_right _ _) s83)
                                                                                    · refine s_iconst dL_law_1304 ?_
                                                                                      exact s_none
                                                                                  · refine s_ite1 (fun h37 => ?_) ?_
                                                                                    · refine s_tabI (tgt := 1306) dL_law_39 37 h37 (by decide) (by decide) rfl (by decide) ?_
                                                                                      refine s_aload_n 1 dL_law_1306 rfl rfl ?_
                                                                                      refine s_aload_n 0 dL_law_1307 rfl rfl ?_
                                                                                      refine s_iload 4 dL_law_1308 rfl ?_
                                                                                      refine s_iconst dL_law_1310 ?_
                                                                                      refine s_iadd dL_law_1311 ?_
                                                                                      refine s_sld hX hbB hB dL_law_1312 (fun x168 => ?_)
                                                                                      refine s_Vl (rest := []) dL_law_1313 lk_L_173 meX6_without (ctX6_without B fu x168 s0) kd_0 ⟨rfl, by decide⟩ rfl rfl ⟨rfl, rfl, by decide, by decide⟩ (Nat.le_of_ble_eq_true rfl) (fun x169 s84 => ?_)
                                                                                      refine s_aload_n 2 dL_law_1316 rfl rfl ?_
                                                                                      refine s_aload_n 0 dL_law_1317 rfl rfl ?_
                                                                                      refine s_iload 4 dL_law_1318 rfl ?_
                                                                                      refine s_iconst dL_law_1320 ?_
                                                                                      refine s_iadd dL_law_1321 ?_
                                                                                      refine s_sld hX hbB hB dL_law_1322 (fun x170 => ?_)
                                                                                      refine s_Vl (rest := [jv x169]) dL_law_1323 lk_L_176 meX7_without (ctX7_without B fu x170 s84) kd_328 ⟨rfl, by decide⟩ rfl rfl ⟨rfl, rfl, by decide, by decide⟩ (Nat.le_of_ble_eq_true rfl) (fun x171 s85 => ?_)
                                                                                      refine s_lif_eq (tgt := 1838) dL_law_1326 dL_law_1327 (by decide) ?_ ?_
                                                                                      · exact s_sub [0, 1, 2, 3, 4] rfl (hj1 cs sl (Nat.le_succ _) (Nat.le_add_right _ _) s85)
                                                                                      · refine s_iconst dL_law_1330 ?_
                                                                                        exact s_none
                                                                                    · refine s_ite1 (fun h38 => ?_) ?_
                                                                                      · refine s_tabI (tgt := 1332) dL_law_39 38 h38 (by decide) (by decide) rfl (by decide) ?_
                                                                                        refine s_aload_n 1 dL_law_1332 rfl rfl ?_
                                                                                        refine s_aload_n 0 dL_law_1333 rfl rfl ?_
                                                                                        refine s_iload 4 dL_law_1334 rfl ?_
                                                                                        refine s_iconst dL_law_1336 ?_
                                                                                        refine s_iadd dL_law_1337 ?_
                                                                                        refine s_sld hX hbB hB dL_law_1338 (fun x172 => ?_)
                                                                                        refine s_Vl (rest := []) dL_law_1339 lk_L_177 meX6_shut (ctX6_shut B fu x172 s0) kd_0 ⟨rfl, by decide⟩ rfl rfl ⟨rfl, rfl, by decide, by decide⟩ (Nat.le_of_ble_eq_true rfl) (fun x173 s86 => ?_)
                                                                                        refine s_aload_n 2 dL_law_1342 rfl rfl ?_
                                                                                        refine s_aload_n 0 dL_law_1343 rfl rfl ?_
                                                                                        refine s_iload 4 dL_law_1344 rfl ?_
                                                                                        refine s_iconst dL_law_1346 ?_
                                                                                        refine s_iadd dL_law_1347 ?_
                                                                                        refine s_sld hX hbB hB dL_law_1348 (fun x174 => ?_)
                                                                                        refine s_Vl (rest := [jv x173]) dL_law_1349 lk_L_180 meX7_shut (ctX7_shut B fu x174 s86) kd_328 ⟨rfl, by decide⟩ rfl rfl ⟨rfl, rfl, by decide, by decide⟩ (Nat.le_of_ble_eq_true rfl) (fun x175 s87 => ?_)
                                                                                        refine s_lif_eq (tgt := 1838) dL_law_1352 dL_law_1353 (by decide) ?_ ?_
                                                                                        · exact s_sub [0, 1, 2, 3, 4] rfl (hj1 cs sl (Nat.le_succ _) (Nat.le_add_right _ _) s87)
                                                                                        · refine s_iconst dL_law_1356 ?_
                                                                                          exact s_none
                                                                                      · refine s_ite1 (fun h39 => ?_) ?_
                                                                                        · refine s_tabI (tgt := 1358) dL_law_39 39 h39 (by decide) (by decide) rfl (by decide) ?_
                                                                                          refine s_aload_n 1 dL_law_1358 rfl rfl ?_
                                                                                          refine s_aload_n 0 dL_law_1359 rfl rfl ?_
                                                                                          refine s_iload 4 dL_law_1360 rfl ?_
                                                                                          refine s_iconst dL_law_1362 ?_
                                                                                          refine s_iadd dL_law_1363 ?_
                                                                                          refine s_sld hX hbB hB dL_law_1364 (fun x176 => ?_)
                                                                                          refine s_aload_n 0 dL_law_1365 rfl rfl ?_
                                                                                          refine s_iload 4 dL_law_1366 rfl ?_
                                                                                          refine s_iconst dL_law_1368 ?_
                                                                                          refine s_iadd dL_law_1369 ?_
                                                                                          refine s_sld hX hbB hB dL_law_1370 (fun x177 => ?_)
                                                                                          refine s_Vl (rest := []) dL_law_1371 lk_L_181 meX6_more (ctX6_more B fu x176 x177 s0) kd_0 ⟨rfl, by decide⟩ rfl rfl ⟨rfl, rfl, by decide, by decide⟩ (Nat.le_of_ble_eq_true rfl) (fun x178 s88 => ?_)
                                                                                          refine s_aload_n 2 dL_law_1374 rfl rfl ?_
                                                                                          refine s_aload_n 0 dL_law_1375 rfl rfl ?_
                                                                                          refine s_iload 4 dL_law_1376 rfl ?_
                                                                                          refine s_iconst dL_law_1378 ?_
                                                                                          refine s_iadd dL_law_1379 ?_
                                                                                          refine s_sld hX hbB hB dL_law_1380 (fun x179 => ?_)
                                                                                          refine s_aload_n 0 dL_law_1381 rfl rfl ?_
                                                                                          refine s_iload 4 dL_law_1382 rfl ?_
                                                                                          refine s_iconst dL_law_1384 ?_
                                                                                          refine s_iadd dL_law_1385 ?_
                                                                                          refine s_sld hX hbB hB dL_law_1386 (fun x180 => ?_)
                                                                                          refine s_Vl (rest := [jv x178]) dL_law_1387 lk_L_185 meX7_more (ctX7_more B fu x179 x180 s88) kd_328 ⟨rfl, by decide⟩ rfl rfl ⟨rfl, rfl, by decide, by decide⟩ (Nat.le_of_ble_eq_true rfl) (fun x181 s89 => ?_)
                                                                                          refine s_lif_eq (tgt := 1838) dL_law_1390 dL_law_1391 (by decide) ?_ ?_
                                                                                          · exact s_sub [0, 1, 2, 3, 4] rfl (hj1 cs sl (Nat.le_succ _) (Nat.le_add_right _ _) s89)
                                                                                          · refine s_iconst dL_law_1394 ?_
                                                                                            exact s_none
                                                                                        · refine s_ite1 (fun h40 => ?_) ?_
                                                                                          · refine s_tabI (tgt := 1396) dL_law_39 40 h40 (by decide) (by decide) rfl (by decide) ?_
                                                                                            refine s_aload_n 1 dL_law_1396 rfl rfl ?_
                                                                                            refine s_aload_n 0 dL_law_1397 rfl rfl ?_
                                                                                            refine s_iload 4 dL_law_1398 rfl ?_
                                                                                            refine s_iconst dL_law_1400 ?_
                                                                                            refine s_iadd dL_law_1401 ?_
                                                                                            refine s_sld hX hbB hB dL_law_1402 (fun x182 => ?_)
                                                                                            refine s_Vi (rest := []) dL_law_1403 lk_L_186 meX6_best (ctX6_best B fu x182 s0) kd_0 ⟨rfl, by decide⟩ rfl rfl ⟨rfl, rfl, by decide, by decide⟩ (Nat.le_of_ble_eq_true rfl) (fun x183 s90 => ?_)
                                                                                            refine s_aload_n 2 dL_law_1406 rfl rfl ?_
                                                                                            refine s_aload_n 0 dL_law_1407 rfl rfl ?_
                                                                                            refine s_iload 4 dL_law_1408 rfl ?_
                                                                                            refine s_iconst dL_law_1410 ?_
                                                                                            refine s_iadd dL_law_1411 ?_
                                                                                            refine s_sld hX hbB hB dL_law_1412 (fun x184 => ?_)
                                                                                            refine s_Vi (rest := [iv x183]) dL_law_1413 lk_L_189 meX7_best (ctX7_best B fu x184 s90) kd_328 ⟨rfl, by decide⟩ rfl rfl ⟨rfl, rfl, by decide, by decide⟩ (Nat.le_of_ble_eq_true rfl) (fun x185 s91 => ?_)
                                                                                            refine s_icmp_eq (tgt := 1838) dL_law_1416 (by decide) ?_ ?_
                                                                                            · exact s_sub [0, 1, 2, 3, 4] rfl (hj1 cs sl (Nat.le_succ _) (Nat.le_add_right _ _) s91)
                                                                                            · refine s_iconst dL_law_1419 ?_
                                                                                              exact s_none
                                                                                          · refine s_ite1 (fun h41 => ?_) ?_
                                                                                            · refine s_tabI (tgt := 1421) dL_law_39 41 h41 (by decide) (by decide) rfl (by decide) ?_
                                                                                              refine s_aload_n 1 dL_law_1421 rfl rfl ?_
                                                                                              refine s_aload_n 0 dL_law_1422 rfl rfl ?_
                                                                                              refine s_iload 4 dL_law_1423 rfl ?_
                                                                                              refine s_iconst dL_law_1425 ?_
                                                                                              refine s_iadd dL_law_1426 ?_
                                                                                              refine s_sld hX hbB hB dL_law_1427 (fun x186 => ?_)
                                                                                              refine s_Vl (rest := []) dL_law_1428 lk_L_190 meX6_towards (ctX6_towards B fu x186 s0) kd_0 ⟨rfl, by decide⟩ rfl rfl ⟨rfl, rfl, by decide, by decide⟩ (Nat.le_of_ble_eq_true rfl) (fun x187 s92 => ?_)
                                                                                              refine s_aload_n 2 dL_law_1431 rfl rfl ?_
                                                                                              refine s_aload_n 0 dL_law_1432 rfl rfl ?_
                                                                                              refine s_iload 4 dL_law_1433 rfl ?_
                                                                                              refine s_iconst dL_law_1435 ?_
                                                                                              refine s_iadd dL_law_1436 ?_
                                                                                              refine s_sld hX hbB hB dL_law_1437 (fun x188 => ?_)
                                                                                              refine s_Vl (rest := [jv x187]) dL_law_1438 lk_L_193 meX7_towards (ctX7_towards B fu x188 s92) kd_328 ⟨rfl, by decide⟩ rfl rfl ⟨rfl, rfl, by decide, by decide⟩ (Nat.le_of_ble_eq_true rfl) (fun x189 s93 => ?_)
                                                                                              refine s_lif_eq (tgt := 1838) dL_law_1441 dL_law_1442 (by decide) ?_ ?_
                                                                                              · exact s_sub [0, 1, 2, 3, 4] rfl (hj1 cs sl (Nat.le_succ _) (Nat.le_add_right _ _) s93)
                                                                                              · refine s_iconst dL_law_1445 ?_
                                                                                                exact s_none
                                                                                            · refine s_ite1 (fun h42 => ?_) ?_
                                                                                              · refine s_tabI (tgt := 1447) dL_law_39 42 h42 (by decide) (by decide) rfl (by decide) ?_
                                                                                                refine s_aload_n 1 dL_law_1447 rfl rfl ?_
                                                                                                refine s_aload_n 0 dL_law_1448 rfl rfl ?_
                                                                                                refine s_iload 4 dL_law_1449 rfl ?_
                                                                                                refine s_iconst dL_law_1451 ?_
                                                                                                refine s_iadd dL_law_1452 ?_
                                                                                                refine s_sld hX hbB hB dL_law_1453 (fun x190 => ?_)
                                                                                                refine s_aload_n 0 dL_law_1454 rfl rfl ?_
                                                                                                refine s_iload 4 dL_law_1455 rfl ?_
                                                                                                refine s_iconst dL_law_1457 ?_
                                                                                                refine s_iadd dL_law_1458 ?_
                                                                                                refine s_sld hX hbB hB dL_law_1459 (fun x191 => ?_)
                                                                                                refine s_aload_n 0 dL_law_1460 rfl rfl ?_
                                                                                                refine s_iload 4 dL_law_1461 rfl ?_
                                                                                                refine s_iconst dL_law_1463 ?_
                                                                                                refine s_iadd dL_law_1464 ?_
                                                                                                refine s_sld hX hbB hB dL_law_1465 (fun x192 => ?_)
                                                                                                refine s_Vl (rest := []) dL_law_1466 lk_L_194 meX6_slower (ctX6_slower B fu x190 x191 x192 s0) kd_0 ⟨rfl, by decide⟩ rfl rfl ⟨rfl, rfl, by decide, by decide⟩ (Nat.le_of_ble_eq_true rfl) (fun x193 s94 => ?_)
                                                                                                refine s_aload_n 2 dL_law_1469 rfl rfl ?_
                                                                                                refine s_aload_n 0 dL_law_1470 rfl rfl ?_
                                                                                                refine s_iload 4 dL_law_1471 rfl ?_
                                                                                                refine s_iconst dL_law_1473 ?_
                                                                                                refine s_iadd dL_law_1474 ?_
                                                                                                refine s_sld hX hbB hB dL_law_1475 (fun x194 => ?_)
                                                                                                refine s_aload_n 0 dL_law_1476 rfl rfl ?_
                                                                                                refine s_iload 4 dL_law_1477 rfl ?_
                                                                                                refine s_iconst dL_law_1479 ?_
                                                                                                refine s_iadd dL_law_1480 ?_
                                                                                                refine s_sld hX hbB hB dL_law_1481 (fun x195 => ?_)
                                                                                                refine s_aload_n 0 dL_law_1482 rfl rfl ?_
                                                                                                refine s_iload 4 dL_law_1483 rfl ?_
                                                                                                refine s_iconst dL_law_1485 ?_
                                                                                                refine s_iadd dL_law_1486 ?_
                                                                                                refine s_sld hX hbB hB dL_law_1487 (fun x196 => ?_)
                                                                                                refine s_Vl (rest := [jv x193]) dL_law_1488 lk_L_198 meX7_slower (ctX7_slower B fu x194 x195 x196 s94) kd_328 ⟨rfl, by decide⟩ rfl rfl ⟨rfl, rfl, by decide, by decide⟩ (Nat.le_of_ble_eq_true rfl) (fun x197 s95 => ?_)
                                                                                                refine s_lif_eq (tgt := 1838) dL_law_1491 dL_law_1492 (by decide) ?_ ?_
                                                                                                · exact s_sub [0, 1, 2, 3, 4] rfl (hj1 cs sl (Nat.le_succ _) (Nat.le_add_right _ _) s95)
                                                                                                · refine s_iconst dL_law_1495 ?_
                                                                                                  exact s_none
                                                                                              · refine s_ite1 (fun h43 => ?_) ?_
                                                                                                · refine s_tabI (tgt := 1497) dL_law_39 43 h43 (by decide) (by decide) rfl (by decide) ?_
                                                                                                  refine s_aload_n 1 dL_law_1497 rfl rfl ?_
                                                                                                  refine s_aload_n 0 dL_law_1498 rfl rfl ?_
                                                                                                  refine s_iload 4 dL_law_1499 rfl ?_
                                                                                                  refine s_iconst dL_law_1501 ?_
                                                                                                  refine s_iadd dL_law_1502 ?_
                                                                                                  refine s_sld hX hbB hB dL_law_1503 (fun x198 => ?_)
                                                                                                  refine s_aload_n 0 dL_law_1504 rfl rfl ?_
                                                                                                  refine s_iload 4 dL_law_1505 rfl ?_
                                                                                                  refine s_iconst dL_law_1507 ?_
                                                                                                  refine s_iadd dL_law_1508 ?_
                                                                                                  refine s_sld hX hbB hB dL_law_1509 (fun x199 => ?_)
                                                                                                  refine s_Vl (rest := []) dL_law_1510 lk_L_199 meX6_skips (ctX6_skips B fu x198 x199 s0) kd_0 ⟨rfl, by decide⟩ rfl rfl ⟨rfl, rfl, by decide, by decide⟩ (Nat.le_of_ble_eq_true rfl) (fun x200 s96 => ?_)
                                                                                                  refine s_aload_n 2 dL_law_1513 rfl rfl ?_
                                                                                                  refine s_aload_n 0 dL_law_1514 rfl rfl ?_
                                                                                                  refine s_iload 4 dL_law_1515 rfl ?_
                                                                                                  refine s_iconst dL_law_1517 ?_
                                                                                                  refine s_iadd dL_law_1518 ?_
                                                                                                  refine s_sld hX hbB hB dL_law_1519 (fun x201 => ?_)
                                                                                                  refine s_aload_n 0 dL_law_1520 rfl rfl ?_
                                                                                                  refine s_iload 4 dL_law_1521 rfl ?_
                                                                                                  refine s_iconst dL_law_1523 ?_
                                                                                                  refine s_iadd dL_law_1524 ?_
                                                                                                  refine s_sld hX hbB hB dL_law_1525 (fun x202 => ?_)
                                                                                                  refine s_Vl (rest := [jv x200]) dL_law_1526 lk_L_202 meX7_skips (ctX7_skips B fu x201 x202 s96) kd_328 ⟨rfl, by decide⟩ rfl rfl ⟨rfl, rfl, by decide, by decide⟩ (Nat.le_of_ble_eq_true rfl) (fun x203 s97 => ?_)
                                                                                                  refine s_lif_eq (tgt := 1838) dL_law_1529 dL_law_1530 (by decide) ?_ ?_
                                                                                                  · exact s_sub [0, 1, 2, 3, 4] rfl (hj1 cs sl (Nat.le_succ _) (Nat.le_add_right _ _) s97)
                                                                                                  · refine s_iconst dL_law_1533 ?_
                                                                                                    exact s_none
                                                                                                · refine s_ite1 (fun h44 => ?_) ?_
                                                                                                  · refine s_tabI (tgt := 1535) dL_law_39 44 h44 (by decide) (by decide) rfl (by decide) ?_
                                                                                                    refine s_aload_n 1 dL_law_1535 rfl rfl ?_
                                                                                                    refine s_aload_n 0 dL_law_1536 rfl rfl ?_
                                                                                                    refine s_iload 4 dL_law_1537 rfl ?_
                                                                                                    refine s_iconst dL_law_1539 ?_
                                                                                                    refine s_iadd dL_law_1540 ?_
                                                                                                    refine s_sld hX hbB hB dL_law_1541 (fun x204 => ?_)
                                                                                                    refine s_aload_n 0 dL_law_1542 rfl rfl ?_
                                                                                                    refine s_iload 4 dL_law_1543 rfl ?_
                                                                                                    refine s_iconst dL_law_1545 ?_
                                                                                                    refine s_iadd dL_law_1546 ?_
                                                                                                    refine s_sld hX hbB hB dL_law_1547 (fun x205 => ?_)
                                                                                                    refine s_Vi (rest := []) dL_law_1548 lk_L_203 meX6_uses (ctX6_uses B fu x204 x205 s0) kd_0 ⟨rfl, by decide⟩ rfl rfl ⟨rfl, rfl, by decide, by decide⟩ (Nat.le_of_ble_eq_true rfl) (fun x206 s98 => ?_)
                                                                                                    refine s_aload_n 2 dL_law_1551 rfl rfl ?_
                                                                                                    refine s_aload_n 0 dL_law_1552 rfl rfl ?_
                                                                                                    refine s_iload 4 dL_law_1553 rfl ?_
                                                                                                    refine s_iconst dL_law_1555 ?_
                                                                                                    refine s_iadd dL_law_1556 ?_
                                                                                                    refine s_sld hX hbB hB dL_law_1557 (fun x207 => ?_)
                                                                                                    refine s_aload_n 0 dL_law_1558 rfl rfl ?_
                                                                                                    refine s_iload 4 dL_law_1559 rfl ?_
                                                                                                    refine s_iconst dL_law_1561 ?_
                                                                                                    refine s_iadd dL_law_1562 ?_
                                                                                                    refine s_sld hX hbB hB dL_law_1563 (fun x208 => ?_)
                                                                                                    refine s_Vi (rest := [iv x206]) dL_law_1564 lk_L_206 meX7_uses (ctX7_uses B fu x207 x208 s98) kd_328 ⟨rfl, by decide⟩ rfl rfl ⟨rfl, rfl, by decide, by decide⟩ (Nat.le_of_ble_eq_true rfl) (fun x209 s99 => ?_)
                                                                                                    refine s_icmp_eq (tgt := 1838) dL_law_1567 (by decide) ?_ ?_
                                                                                                    · exact s_sub [0, 1, 2, 3, 4] rfl (hj1 cs sl (Nat.le_succ _) (Nat.le_add_right _ _) s99)
                                                                                                    · refine s_iconst dL_law_1570 ?_
                                                                                                      exact s_none
                                                                                                  · refine s_ite1 (fun h45 => ?_) ?_
                                                                                                    · refine s_tabI (tgt := 1572) dL_law_39 45 h45 (by decide) (by decide) rfl (by decide) ?_
                                                                                                      refine s_aload_n 1 dL_law_1572 rfl rfl ?_
                                                                                                      refine s_Vi (rest := []) dL_law_1573 lk_L_207 meX6_centre (ctX6_centre B fu s0) kd_0 ⟨rfl, by decide⟩ rfl rfl ⟨rfl, rfl, by decide, by decide⟩ (Nat.le_of_ble_eq_true rfl) (fun x210 s100 => ?_)
                                                                                                      refine s_aload_n 2 dL_law_1576 rfl rfl ?_
                                                                                                      refine s_Vi (rest := [iv x210]) dL_law_1577 lk_L_210 meX7_centre (ctX7_centre B fu s100) kd_328 ⟨rfl, by decide⟩ rfl rfl ⟨rfl, rfl, by decide, by decide⟩ (Nat.le_of_ble_eq_true rfl) (fun x211 s101 => ?_)
                                                                                                      refine s_icmp_eq (tgt := 1838) dL_law_1580 (by decide) ?_ ?_
                                                                                                      · exact s_sub [0, 1, 2, 3, 4] rfl (hj1 cs sl (Nat.le_succ _) (Nat.le_add_right _ _) s101)
                                                                                                      · refine s_iconst dL_law_1583 ?_
                                                                                                        exact s_none
                                                                                                    · refine s_ite1 (fun h46 => ?_) ?_
                                                                                                      · refine s_tabI (tgt := 1585) dL_law_39 46 h46 (by decide) (by decide) rfl (by decide) ?_
                                                                                                        refine s_aload_n 1 dL_law_1585 rfl rfl ?_
                                                                                                        refine s_Vi (rest := []) dL_law_1586 lk_L_211 meX6_spare (ctX6_spare B fu s0) kd_0 ⟨rfl, by decide⟩ rfl rfl ⟨rfl, rfl, by decide, by decide⟩ (Nat.le_of_ble_eq_true rfl) (fun x212 s102 => ?_)
                                                                                                        refine s_aload_n 2 dL_law_1589 rfl rfl ?_
                                                                                                        refine s_Vi (rest := [iv x212]) dL_law_1590 lk_L_214 meX7_spare (ctX7_spare B fu s102) kd_328 ⟨rfl, by decide⟩ rfl rfl ⟨rfl, rfl, by decide, by decide⟩ (Nat.le_of_ble_eq_true rfl) (fun x213 s103 => ?_)
                                                                                                        refine s_icmp_eq (tgt := 1838) dL_law_1593 (by decide) ?_ ?_
                                                                                                        · exact s_sub [0, 1, 2, 3, 4] rfl (hj1 cs sl (Nat.le_succ _) (Nat.le_add_right _ _) s103)
                                                                                                        · refine s_iconst dL_law_1596 ?_
                                                                                                          exact s_none
                                                                                                      · refine s_ite1 (fun h47 => ?_) ?_
                                                                                                        · refine s_tabI (tgt := 1598) dL_law_39 47 h47 (by decide) (by decide) rfl (by decide) ?_
                                                                                                          refine s_aload_n 1 dL_law_1598 rfl rfl ?_
                                                                                                          refine s_aload_n 0 dL_law_1599 rfl rfl ?_
                                                                                                          refine s_iload 4 dL_law_1600 rfl ?_
                                                                                                          refine s_iconst dL_law_1602 ?_
                                                                                                          refine s_iadd dL_law_1603 ?_
                                                                                                          refine s_sld hX hbB hB dL_law_1604 (fun x214 => ?_)
                                                                                                          refine s_aload_n 0 dL_law_1605 rfl rfl ?_
                                                                                                          refine s_iload 4 dL_law_1606 rfl ?_
                                                                                                          refine s_iconst dL_law_1608 ?_
                                                                                                          refine s_iadd dL_law_1609 ?_
                                                                                                          refine s_sld hX hbB hB dL_law_1610 (fun x215 => ?_)
                                                                                                          refine s_Vi (rest := []) dL_law_1611 lk_L_215 meX6_offset (ctX6_offset B fu x214 x215 s0) kd_0 ⟨rfl, by decide⟩ rfl rfl ⟨rfl, rfl, by decide, by decide⟩ (Nat.le_of_ble_eq_true rfl) (fun x216 s104 => ?_)
                                                                                                          refine s_aload_n 2 dL_law_1614 rfl rfl ?_
                                                                                                          refine s_aload_n 0 dL_law_1615 rfl rfl ?_
                                                                                                          refine s_iload 4 dL_law_1616 rfl ?_
                                                                                                          refine s_iconst dL_law_1618 ?_
                                                                                                          refine s_iadd dL_law_1619 ?_
                                                                                                          refine s_sld hX hbB hB dL_law_1620 (fun x217 => ?_)
                                                                                                          refine s_aload_n 0 dL_law_1621 rfl rfl ?_
                                                                                                          refine s_iload 4 dL_law_1622 rfl ?_
                                                                                                          refine s_iconst dL_law_1624 ?_
                                                                                                          refine s_iadd dL_law_1625 ?_
                                                                                                          refine s_sld hX hbB hB dL_law_1626 (fun x218 => ?_)
                                                                                                          refine s_Vi (rest := [iv x216]) dL_law_1627 lk_L_218 meX7_offset (ctX7_offset B fu x217 x218 s104) kd_328 ⟨rfl, by decide⟩ rfl rfl ⟨rfl, rfl, by decide, by decide⟩ (Nat.le_of_ble_eq_true rfl) (fun x219 s105 => ?_)
                                                                                                          refine s_icmp_eq (tgt := 1838) dL_law_1630 (by decide) ?_ ?_
                                                                                                          · exact s_sub [0, 1, 2, 3, 4] rfl (hj1 cs sl (Nat.le_succ _) (Nat.le_add_right _ _) s105)
                                                                                                          · refine s_iconst dL_law_1633 ?_
                                                                                                            exact s_none
                                                                                                        · refine s_ite1 (fun h48 => ?_) ?_
                                                                                                          · refine s_tabI (tgt := 1635) dL_law_39 48 h48 (by decide) (by decide) rfl (by decide) ?_
                                                                                                            refine s_aload_n 1 dL_law_1635 rfl rfl ?_
                                                                                                            refine s_aload_n 0 dL_law_1636 rfl rfl ?_
                                                                                                            refine s_iload 4 dL_law_1637 rfl ?_
                                                                                                            refine s_iconst dL_law_1639 ?_
                                                                                                            refine s_iadd dL_law_1640 ?_
                                                                                                            refine s_sld hX hbB hB dL_law_1641 (fun x220 => ?_)
                                                                                                            refine s_aload_n 0 dL_law_1642 rfl rfl ?_
                                                                                                            refine s_iload 4 dL_law_1643 rfl ?_
                                                                                                            refine s_iconst dL_law_1645 ?_
                                                                                                            refine s_iadd dL_law_1646 ?_
                                                                                                            refine s_sld hX hbB hB dL_law_1647 (fun x221 => ?_)
                                                                                                            refine s_aload_n 0 dL_law_1648 rfl rfl ?_
                                                                                                            refine s_iload 4 dL_law_1649 rfl ?_
                                                                                                            refine s_iconst dL_law_1651 ?_
                                                                                                            refine s_iadd dL_law_1652 ?_
                                                                                                            refine s_sld hX hbB hB dL_law_1653 (fun x222 => ?_)
                                                                                                            refine s_Vi (rest := []) dL_law_1654 lk_L_219 meX6_comes (ctX6_comes B fu x220 x221 x222 s0) kd_0 ⟨rfl, by decide⟩ rfl rfl ⟨rfl, rfl, by decide, by decide⟩ (Nat.le_of_ble_eq_true rfl) (fun x223 s106 => ?_)
                                                                                                            refine s_aload_n 2 dL_law_1657 rfl rfl ?_
                                                                                                            refine s_aload_n 0 dL_law_1658 rfl rfl ?_
                                                                                                            refine s_iload 4 dL_law_1659 rfl ?_
                                                                                                            refine s_iconst dL_law_1661 ?_
                                                                                                            refine s_iadd dL_law_1662 ?_
                                                                                                            refine s_sld hX hbB hB dL_law_1663 (fun x224 => ?_)
                                                                                                            refine s_aload_n 0 dL_law_1664 rfl rfl ?_
                                                                                                            refine s_iload 4 dL_law_1665 rfl ?_
                                                                                                            refine s_iconst dL_law_1667 ?_
                                                                                                            refine s_iadd dL_law_1668 ?_
                                                                                                            refine s_sld hX hbB hB dL_law_1669 (fun x225 => ?_)
                                                                                                            refine s_aload_n 0 dL_law_1670 rfl rfl ?_
                                                                                                            refine s_iload 4 dL_law_1671 rfl ?_
                                                                                                            refine s_iconst dL_law_1673 ?_
                                                                                                            refine s_iadd dL_law_1674 ?_
                                                                                                            refine s_sld hX hbB hB dL_law_1675 (fun x226 => ?_)
                                                                                                            refine s_Vi (rest := [iv x223]) dL_law_1676 lk_L_223 meX7_comes (ctX7_comes B fu x224 x225 x226 s106) kd_328 ⟨rfl, by decide⟩ rfl rfl ⟨rfl, rfl, by decide, by decide⟩ (Nat.le_of_ble_eq_true rfl) (fun x227 s107 => ?_)
                                                                                                            refine s_icmp_eq (tgt := 1838) dL_law_1679 (by decide) ?_ ?_
                                                                                                            · exact s_sub [0, 1, 2, 3, 4] rfl (hj1 cs sl (Nat.le_succ _) (Nat.le_add_right _ _) s107)
                                                                                                            · refine s_iconst dL_law_1682 ?_
                                                                                                              exact s_none
                                                                                                          · refine s_ite1 (fun h49 => ?_) ?_
                                                                                                            · refine s_tabI (tgt := 1684) dL_law_39 49 h49 (by decide) (by decide) rfl (by decide) ?_
                                                                                                              refine s_aload_n 1 dL_law_1684 rfl rfl ?_
                                                                                                              refine s_aload_n 0 dL_law_1685 rfl rfl ?_
                                                                                                              refine s_iload 4 dL_law_1686 rfl ?_
                                                                                                              refine s_iconst dL_law_1688 ?_
                                                                                                              refine s_iadd dL_law_1689 ?_
                                                                                                              refine s_sld hX hbB hB dL_law_1690 (fun x228 => ?_)
                                                                                                              refine s_aload_n 0 dL_law_1691 rfl rfl ?_
                                                                                                              refine s_iload 4 dL_law_1692 rfl ?_
                                                                                                              refine s_iconst dL_law_1694 ?_
                                                                                                              refine s_iadd dL_law_1695 ?_
                                                                                                              refine s_sld hX hbB hB dL_law_1696 (fun x229 => ?_)
                                                                                                              refine s_Vi (rest := []) dL_law_1697 lk_L_224 meX6_journey (ctX6_journey B fu x228 x229 s0) kd_0 ⟨rfl, by decide⟩ rfl rfl ⟨rfl, rfl, by decide, by decide⟩ (Nat.le_of_ble_eq_true rfl) (fun x230 s108 => ?_)
                                                                                                              refine s_aload_n 2 dL_law_1700 rfl rfl ?_
                                                                                                              refine s_aload_n 0 dL_law_1701 rfl rfl ?_
                                                                                                              refine s_iload 4 dL_law_1702 rfl ?_
                                                                                                              refine s_iconst dL_law_1704 ?_
                                                                                                              refine s_iadd dL_law_1705 ?_
                                                                                                              refine s_sld hX hbB hB dL_law_1706 (fun x231 => ?_)
                                                                                                              refine s_aload_n 0 dL_law_1707 rfl rfl ?_
                                                                                                              refine s_iload 4 dL_law_1708 rfl ?_
                                                                                                              refine s_iconst dL_law_1710 ?_
                                                                                                              refine s_iadd dL_law_1711 ?_
                                                                                                              refine s_sld hX hbB hB dL_law_1712 (fun x232 => ?_)
                                                                                                              refine s_Vi (rest := [iv x230]) dL_law_1713 lk_L_227 meX7_journey (ctX7_journey B fu x231 x232 s108) kd_328 ⟨rfl, by decide⟩ rfl rfl ⟨rfl, rfl, by decide, by decide⟩ (Nat.le_of_ble_eq_true rfl) (fun x233 s109 => ?_)
                                                                                                              refine s_icmp_eq (tgt := 1838) dL_law_1716 (by decide) ?_ ?_
                                                                                                              · exact s_sub [0, 1, 2, 3, 4] rfl (hj1 cs sl (Nat.le_succ _) (Nat.le_add_right _ _) s109)
                                                                                                              · refine s_iconst dL_law_1719 ?_
                                                                                                                exact s_none
                                                                                                            · refine s_ite1 (fun h50 => ?_) ?_
                                                                                                              · refine s_tabI (tgt := 1721) dL_law_39 50 h50 (by decide) (by decide) rfl (by decide) ?_
                                                                                                                refine s_aload_n 1 dL_law_1721 rfl rfl ?_
                                                                                                                refine s_aload_n 0 dL_law_1722 rfl rfl ?_
                                                                                                                refine s_iload 4 dL_law_1723 rfl ?_
                                                                                                                refine s_iconst dL_law_1725 ?_
                                                                                                                refine s_iadd dL_law_1726 ?_
                                                                                                                refine s_sld hX hbB hB dL_law_1727 (fun x234 => ?_)
                                                                                                                refine s_aload_n 0 dL_law_1728 rfl rfl ?_
                                                                                                                refine s_iload 4 dL_law_1729 rfl ?_
                                                                                                                refine s_iconst dL_law_1731 ?_
                                                                                                                refine s_iadd dL_law_1732 ?_
                                                                                                                refine s_sld hX hbB hB dL_law_1733 (fun x235 => ?_)
                                                                                                                refine s_Vi (rest := []) dL_law_1734 lk_L_228 meX6_usual (ctX6_usual B fu x234 x235 s0) kd_0 ⟨rfl, by decide⟩ rfl rfl ⟨rfl, rfl, by decide, by decide⟩ (Nat.le_of_ble_eq_true rfl) (fun x236 s110 => ?_)
                                                                                                                refine s_aload_n 2 dL_law_1737 rfl rfl ?_
                                                                                                                refine s_aload_n 0 dL_law_1738 rfl rfl ?_
                                                                                                                refine s_iload 4 dL_law_1739 rfl ?_
                                                                                                                refine s_iconst dL_law_1741 ?_
                                                                                                                refine s_iadd dL_law_1742 ?_
                                                                                                                refine s_sld hX hbB hB dL_law_1743 (fun x237 => ?_)
                                                                                                                refine s_aload_n 0 dL_law_1744 rfl rfl ?_
                                                                                                                refine s_iload 4 dL_law_1745 rfl ?_
                                                                                                                refine s_iconst dL_law_1747 ?_
                                                                                                                refine s_iadd dL_law_1748 ?_
                                                                                                                refine s_sld hX hbB hB dL_law_1749 (fun x238 => ?_)
                                                                                                                refine s_Vi (rest := [iv x236]) dL_law_1750 lk_L_231 meX7_usual (ctX7_usual B fu x237 x238 s110) kd_328 ⟨rfl, by decide⟩ rfl rfl ⟨rfl, rfl, by decide, by decide⟩ (Nat.le_of_ble_eq_true rfl) (fun x239 s111 => ?_)
                                                                                                                refine s_icmp_eq (tgt := 1838) dL_law_1753 (by decide) ?_ ?_
                                                                                                                · exact s_sub [0, 1, 2, 3, 4] rfl (hj1 cs sl (Nat.le_succ _) (Nat.le_add_right _ _) s111)
                                                                                                                · refine s_iconst dL_law_1756 ?_
                                                                                                                  exact s_none
                                                                                                              · refine s_ite1 (fun h51 => ?_) ?_
                                                                                                                · refine s_tabI (tgt := 1758) dL_law_39 51 h51 (by decide) (by decide) rfl (by decide) ?_
                                                                                                                  refine s_aload_n 1 dL_law_1758 rfl rfl ?_
                                                                                                                  refine s_aload_n 0 dL_law_1759 rfl rfl ?_
                                                                                                                  refine s_iload 4 dL_law_1760 rfl ?_
                                                                                                                  refine s_iconst dL_law_1762 ?_
                                                                                                                  refine s_iadd dL_law_1763 ?_
                                                                                                                  refine s_sld hX hbB hB dL_law_1764 (fun x240 => ?_)
                                                                                                                  refine s_Vi (rest := []) dL_law_1765 lk_L_232 meX6_count (ctX6_count B fu x240 s0) kd_0 ⟨rfl, by decide⟩ rfl rfl ⟨rfl, rfl, by decide, by decide⟩ (Nat.le_of_ble_eq_true rfl) (fun x241 s112 => ?_)
                                                                                                                  refine s_aload_n 2 dL_law_1768 rfl rfl ?_
                                                                                                                  refine s_aload_n 0 dL_law_1769 rfl rfl ?_
                                                                                                                  refine s_iload 4 dL_law_1770 rfl ?_
                                                                                                                  refine s_iconst dL_law_1772 ?_
                                                                                                                  refine s_iadd dL_law_1773 ?_
                                                                                                                  refine s_sld hX hbB hB dL_law_1774 (fun x242 => ?_)
                                                                                                                  refine s_Vi (rest := [iv x241]) dL_law_1775 lk_L_235 meX7_count (ctX7_count B fu x242 s112) kd_328 ⟨rfl, by decide⟩ rfl rfl ⟨rfl, rfl, by decide, by decide⟩ (Nat.le_of_ble_eq_true rfl) (fun x243 s113 => ?_)
                                                                                                                  refine s_icmp_eq (tgt := 1838) dL_law_1778 (by decide) ?_ ?_
                                                                                                                  · exact s_sub [0, 1, 2, 3, 4] rfl (hj1 cs sl (Nat.le_succ _) (Nat.le_add_right _ _) s113)
                                                                                                                  · refine s_iconst dL_law_1781 ?_
                                                                                                                    exact s_none
                                                                                                                · refine s_ite1 (fun h52 => ?_) ?_
                                                                                                                  · refine s_tabI (tgt := 1783) dL_law_39 52 h52 (by decide) (by decide) rfl (by decide) ?_
                                                                                                                    refine s_aload_n 1 dL_law_1783 rfl rfl ?_
                                                                                                                    refine s_aload_n 0 dL_law_1784 rfl rfl ?_
                                                                                                                    refine s_iload 4 dL_law_1785 rfl ?_
                                                                                                                    refine s_iconst dL_law_1787 ?_
                                                                                                                    refine s_iadd dL_law_1788 ?_
                                                                                                                    refine s_sld hX hbB hB dL_law_1789 (fun x244 => ?_)
                                                                                                                    refine s_aload_n 3 dL_law_1790 rfl rfl ?_
                                                                                                                    refine s_lrow hl hXN dL_law_1791 lk_L_236 hR1 (fun x245 s114 => ?_)
                                                                                                                    refine s_istore (lv' := [(5, iv x245), (0, .ref b), (1, rv B 0), (2, rv B 328), (3, rv B 361), (4, iv x0)]) dL_law_1794 (by decide) rfl ?_
                                                                                                                    refine s_aload_n 3 dL_law_1796 rfl rfl ?_
                                                                                                                    refine s_aload_n 1 dL_law_1797 rfl rfl ?_
                                                                                                                    refine s_iload 5 dL_law_1798 rfl ?_
                                                                                                                    refine s_iconst dL_law_1800 ?_
                                                                                                                    refine s_iadd dL_law_1801 ?_
                                                                                                                    refine s_sld hX hbB hB dL_law_1802 (fun x246 => ?_)
                                                                                                                    refine s_Vl (rest := []) dL_law_1803 lk_L_241 meX7_row (ctX7_row B fu x246 s114) kd_328 ⟨rfl, by decide⟩ rfl rfl ⟨rfl, rfl, by decide, by decide⟩ (Nat.le_of_ble_eq_true rfl) (fun x247 s115 => ?_)
                                                                                                                    refine s_lstore (lv' := [(6, jv x247), (5, iv x245), (0, .ref b), (1, rv B 0), (2, rv B 328), (3, rv B 361), (4, iv x0)]) dL_law_1806 (by decide) rfl ?_
                                                                                                                    refine s_aload_n 4 dL_law_1808 rfl rfl ?_
                                                                                                                    refine s_Vi (rest := []) dL_law_1809 lk_L_242 meX7_thrown (ctX7_thrown B fu s115) kd_328 ⟨rfl, by decide⟩ rfl rfl ⟨rfl, rfl, by decide, by decide⟩ (Nat.le_of_ble_eq_true rfl) (fun x248 s116 => ?_)
                                                                                                                    refine s_iload 1 dL_law_1812 rfl ?_
                                                                                                                    refine s_icmp_eq (tgt := 1819) dL_law_1814 (by decide) ?_ ?_
                                                                                                                    · refine s_iload 1 dL_law_1819 rfl ?_
                                                                                                                      refine s_jn (fun (j6 : Mem → PR) => ∀ (cs9 sl9 : Nat) (_ : cs9 ≤ cs + 1) (_ : sl9 ≤ sl + 6) (s118 : Mem), Sim cL_law RL 8 room_1 B (XLaw p l e s m b below meth c D ca cs9 sl9) (j6 s118) s118 1835 [(0, .ref b), (1, rv B 0), (2, rv B 328), (3, rv B 361), (4, iv x0)] []) ?_ (fun j6 hj6 => ?_)
                                                                                                                      · intro cs9 sl9 hcs9 hsl9 s117
                                                                                                                        refine s_goto (tgt := 1838) dL_law_1835 (by decide) ?_
                                                                                                                        exact s_sub [0, 1, 2, 3, 4] rfl (hj1 cs9 sl9 hcs9 hsl9 s117)
                                                                                                                      · refine s_if_ne (tgt := 1835) dL_law_1821 (by decide) ?_ ?_
                                                                                                                        · exact s_sub [2, 3, 4, 5, 6] rfl (hj6 (cs + 1) (sl + 6) (Nat.le_refl _) (Nat.le_refl _) s116)
                                                                                                                        · refine s_aload_n 5 dL_law_1824 rfl rfl ?_
                                                                                                                          refine s_iconst dL_law_1825 ?_
                                                                                                                          refine s_lald 1 dL_law_1826 kd_361 (by decide) (fun x249 => ?_)
                                                                                                                          refine s_lload 0 dL_law_1827 rfl ?_
                                                                                                                          refine s_lif_eq (tgt := 1835) dL_law_1829 dL_law_1830 (by decide) ?_ ?_
                                                                                                                          · exact s_sub [2, 3, 4, 5, 6] rfl (hj6 (cs + 1) (sl + 6) (Nat.le_refl _) (Nat.le_refl _) s116)
                                                                                                                          · refine s_iconst dL_law_1833 ?_
                                                                                                                            exact s_none
                                                                                                                    · refine s_iconst dL_law_1817 ?_
                                                                                                                      exact s_none
                                                                                                                  · exact s_none
