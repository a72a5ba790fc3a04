def mem0 : Mem := fun _ _ => 0
/-- the memory behind the constructors -/
def memS : Mem := fl 328 361 (fl 0 328 mem0)
abbrev FU : Nat := 3000
/-- what the pure word of the law's loop owes -/
def LawPure : Prop := ∀ (L : Nat) (xs : Nat → Int32), L ≤ 2048 → ∃ (r : Int) (σ : Mem), fL_law_L FU L xs (fun s => some (1, s)) 520 0 memS = some (r, σ)

theorem memS_lt {k : Nat} (h : k < 361) : memS k = M0 k := by
  unfold memS fl
  by_cases h1 : 328 ≤ k ∧ k < 361
  · rw [if_pos h1]
  · rw [if_neg h1, if_pos (by omega)]
theorem memS_ge {k : Nat} (h : 361 ≤ k) : memS k = fun _ => 0 := by
  unfold memS fl
  rw [if_neg (by omega), if_neg (by omega)]
  rfl
theorem so_big : ∀ d, d < 8 → ∀ j, 50 ≤ j → so d j = 0 := by
  intro d hd j hj
  unfold so
  rw [List.getD_eq_getElem?_getD, List.getElem?_eq_none]
  · rfl
  · exact Nat.le_trans ((by decide +kernel : ∀ d, d < 8 → (soT.getD d []).length ≤ 50) d hd) hj
theorem memS_St : St memS := by
  intro k j h
  have hk8 : kd k < 8 := by
    rcases Nat.lt_or_ge (kd k) 8 with q | q
    · exact q
    · exact absurd (so_arr q) h
  have hk : k < 361 := by
    rcases Nat.lt_or_ge k 361 with q | q
    · exact q
    · exfalso
      rcases Nat.lt_or_ge k 362 with q2 | q2
      · have : k = 361 := by omega
        rw [this, kd_361] at hk8
        omega
      · have := kd_lt (k := k) rfl (by omega)
        simp only [NN] at this
        omega
  have hj : j < 50 := by
    rcases Nat.lt_or_ge j 50 with q | q
    · exact q
    · exact absurd (so_big _ hk8 j q) h
  rw [memS_lt hk]
  exact (by decide +kernel : ∀ k, k < 361 → ∀ j, j < 50 → so (kd k) j ≠ 0 → M0 k j = ((k + so (kd k) j + 1 : Nat) : Int)) k hk j hj h
theorem memS_Vd : Vd memS := by
  refine ⟨fun k j h => ?_, fun a ha i hi => ?_, fun i hi => ?_⟩
  · have hk : (kd k = 2 ∧ j = 0) ∨ (kd k = 5 ∧ j = 2) := by
      unfold dyf at h
      simp only [Bool.or_eq_true, Bool.and_eq_true, beq_iff_eq] at h
      exact h
    have hkn : k < NN := by rcases hk with q | q <;> exact kd_lt q.1 (by decide)
    have hk2 : k = 136 ∨ k = 1 := (by decide +kernel : ∀ k, k < NN → kd k = 2 ∨ kd k = 5 → k = 136 ∨ k = 1) k hkn (by rcases hk with q | q; exact Or.inl q.1; exact Or.inr q.1)
    rcases hk2 with rfl | rfl
    · have : j = 0 := by rcases hk with q | q; exact q.2; exact absurd q.1 (by decide +kernel)
      subst this
      rw [memS_lt (by decide)]
      decide +kernel
    · have : j = 2 := by rcases hk with q | q; exact absurd q.1 (by decide +kernel); exact q.2
      subst this
      rw [memS_lt (by decide)]
      decide +kernel
  · rcases kd5012 ha with rfl | rfl
    · rw [memS_lt (by decide)]
      exact (by decide +kernel : ∀ i, i < 12 → 0 < M0 3 i ∧ kd (pl (M0 3 i)) = 1) i hi
    · rw [memS_lt (by decide)]
      exact (by decide +kernel : ∀ i, i < 12 → 0 < M0 137 i ∧ kd (pl (M0 137 i)) = 1) i hi
  · rw [memS_lt (by decide)]
    exact (by decide +kernel : ∀ i : Nat, i < 10 → M0 270 i = ((283 + 4 * i + 1 : Nat) : Int)) i hi


section ST
variable {p : Program} {l : Launch} {e : Env} {s : State} {m : MethodId} {below : List Frame} {meth : Method} {c : Code} {b B : Nat} {D : va_G} {ca : Nat → ClassId}
theorem g_istore {cc : ByteArray} {own : String} {nL : Nat} {R : Room} {X : Ctx} {n cs sl : Nat} {σ : Mem} {pc i : Nat} {lv lv' : List (Nat × Value)} {st : List Value} {x : Int} (hd : decode cc pc = .ok (.istore i, 2)) (hn : i < nL) (hl2 : (i, (iv x : Value)) :: lv.filter (fun q => !(q.1 == i) && !(q.1 + 1 == i && q.2.category == 2)) = lv') (k : Sig cc own nL R B X n cs sl σ (pc + 2) lv' st) : Sig cc own nL R B X n cs sl σ pc lv (iv x :: st) := by
  obtain ⟨p, l, e, s, m, args, below, meth, c, D, ca, cells, slots, Z⟩ := X
  intro ok H locs ls hF hS hl
  exact lv_istore ok.1 ok.2.1 hd hl hn hl2 (fun ls hl => by exact k ok H locs ls hF hS hl)
/-- from the entry to the loop's head: all objects are made -/
theorem law_made (k : Sig cL_law RL 8 room_1 B (XLaw p l e s m b below meth c D ca 0 0) 362 362 5215 memS 23 [(4, iv 0), (3, rv B 361), (2, rv B 328), (1, rv B 0), (0, .ref b)] []) : Sig cL_law RL 8 room_1 B (XLaw p l e s m b below meth c D ca 0 0) 0 0 0 mem0 0 [(0, .ref b)] [] := by
  refine g_new (C := RX6) (T := TX6) (N := 4) dL_law_0 ly6 nw6 rfl cn_L_8 kd_0 ⟨by decide, by decide⟩ ?_
  refine g_dup dL_law_3 rfl ?_
  refine g_callI dL_law_4 li_L_15 miX6_init (cgX6_init B mem0 (fun _ _ _ => rfl)) ⟨rfl, rfl, by decide, by decide⟩ ⟨by decide, by decide⟩ (Nat.le_of_ble_eq_true rfl) ?_
  refine g_astore_n (lv' := [(1, rv B 0), (0, .ref b)]) dL_law_7 rfl (by decide) rfl ?_
  refine g_new (C := RX7) (T := TX7) (N := 50) dL_law_8 ly7 nw7 rfl cn_L_16 kd_328 ⟨by decide, by decide⟩ ?_
  refine g_dup dL_law_11 rfl ?_
  refine g_callI dL_law_12 li_L_18 miX7_init (cgX7_init B _ (fun k hk j => by simp only [fl]; rw [if_neg (by omega)]; rfl)) ⟨rfl, rfl, by decide, by decide⟩ ⟨by decide, by decide⟩ (Nat.le_of_ble_eq_true rfl) ?_
  refine g_astore_n (lv' := [(2, rv B 328), (1, rv B 0), (0, .ref b)]) dL_law_15 rfl (by decide) rfl ?_
  refine g_iconst dL_law_16 ?_
  refine g_newa_long 1 dL_law_17 ac_long kd_361 (by decide) (by decide) (by decide) ⟨by decide, by decide⟩ ?_
  refine g_astore_n (lv' := [(3, rv B 361), (2, rv B 328), (1, rv B 0), (0, .ref b)]) dL_law_19 rfl (by decide) rfl ?_
  refine g_iconst dL_law_20 ?_
  refine g_istore (lv' := [(4, iv 0), (3, rv B 361), (2, rv B 328), (1, rv B 0), (0, .ref b)]) dL_law_21 (by decide) rfl ?_
  exact k
theorem s_lawret {cs sl pc : Nat} {σ : Mem} {lv : List (Nat × Value)} (hr : meth.sig.returnType = ret) (hlocks : meth.locks = false) (hBs : B = s.heap.size) (hd : decode cL_law pc = .ok (.ireturn, 1)) : Sim cL_law RL 8 room_1 B (XLaw p l e s m b below meth c D ca cs sl) (some (1, σ)) σ pc lv [iv 1] := by
  intro r σ' hq ok H locs ls hF hS hl
  refine va_forget (fun q hq => by have := hS.2.2 q hq; omega) ?_
  refine W.widen (k := 601024) (n := 7293034) ok.2.2.2.2.2.2.2.1 ok.2.2.2.2.2.2.2.2 ?_
  exact lw_ret ok.1 ok.2.1 hr hlocks hd
end ST

set_option maxHeartbeats 8000000 in
set_option maxRecDepth 100000 in
theorem whole_start_of (hp : LawPure) {p : Program} {e : Env} {s : State} {m : MethodId} {below : List Frame} {meth : Method} {c : Code} (l : Launch) (hflags : l.flags = flags0) {b L : Nat} {xs : Nat → Int32} (hL : L ≤ 2048) (C0 : lw_At p s m meth c b L xs) : W p l e room_1 s m #[Value.ref b] below meth c s.heap [] 0 0 (lw_Z below #[Value.ref b] s) (entryFrame m ([Value.ref b] : List Value).toArray 8) := by
  obtain ⟨hx, hb, hr, hml, hown, hts, hX, hbl, hlocks, hgv⟩ := C0
  obtain ⟨c0, i0, hKn0⟩ := u_known (C := RX0) (T := TX0) (N := 3) (n := 3) hts (fun w hw => tb_in w (match ly0 with | ⟨_, _, _, h1, h2, _⟩ => by cases h1; exact h2 w hw)) (hts (.instantiable RX0 3) (List.mem_of_getElem? (i := 348) (by decide +kernel)))
  obtain ⟨c1, i1, hKn1⟩ := u_known (C := RX1) (T := TX1) (N := 15) (n := 15) hts (fun w hw => tb_in w (match ly1 with | ⟨_, _, _, h1, h2, _⟩ => by cases h1; exact h2 w hw)) (hts (.instantiable RX1 15) (List.mem_of_getElem? (i := 104) (by decide +kernel)))
  obtain ⟨c2, i2, hKn2⟩ := u_known (C := RX2) (T := TX2) (N := 13) (n := 13) hts (fun w hw => tb_in w (match ly2 with | ⟨_, _, _, h1, h2, _⟩ => by cases h1; exact h2 w hw)) (hts (.instantiable RX2 13) (List.mem_of_getElem? (i := 209) (by decide +kernel)))
  obtain ⟨c3, i3, hKn3⟩ := u_known (C := RX3) (T := TX3) (N := 2) (n := 2) hts (fun w hw => tb_in w (match ly3 with | ⟨_, _, _, h1, h2, _⟩ => by cases h1; exact h2 w hw)) (hts (.instantiable RX3 2) (List.mem_of_getElem? (i := 332) (by decide +kernel)))
  obtain ⟨c4, i4, hKn4⟩ := u_known (C := RX4) (T := TX4) (N := 12) (n := 12) hts (fun w hw => tb_in w (match ly4 with | ⟨_, _, _, h1, h2, _⟩ => by cases h1; exact h2 w hw)) (hts (.instantiable RX4 12) (List.mem_of_getElem? (i := 219) (by decide +kernel)))
  obtain ⟨c5, i5, hKn5⟩ := u_known (C := RX5) (T := TX5) (N := 7) (n := 7) hts (fun w hw => tb_in w (match ly5 with | ⟨_, _, _, h1, h2, _⟩ => by cases h1; exact h2 w hw)) (hts (.instantiable RX5 7) (List.mem_of_getElem? (i := 94) (by decide +kernel)))
  obtain ⟨c6, i6, hKn6⟩ := u_known (C := RX6) (T := TX6) (N := 4) (n := 4) hts (fun w hw => tb_in w (match ly6 with | ⟨_, _, _, h1, h2, _⟩ => by cases h1; exact h2 w hw)) (hts (.instantiable RX6 4) (List.mem_of_getElem? (i := 86) (by decide +kernel)))
  obtain ⟨c7, i7, hKn7⟩ := u_known (C := RX7) (T := TX7) (N := 50) (n := 50) hts (fun w hw => tb_in w (match ly7 with | ⟨_, _, _, h1, h2, _⟩ => by cases h1; exact h2 w hw)) (hts (.instantiable RX7 50) (List.mem_of_getElem? (i := 1052) (by decide +kernel)))
  obtain ⟨dC, dI, hKc⟩ : ∃ (dC : Nat → ClassId) (dI : Nat → Nat → Nat), ∀ (k : Nat) (q : vw_C), vwCl[k]? = some q → u_Kn s q.1 q.2.1 q.2.2 (dC k) (dI k) := by
    refine ⟨fun k => match k with | 0 => c0 | 1 => c1 | 2 => c2 | 3 => c3 | 4 => c4 | 5 => c5 | 6 => c6 | _ => c7, fun k => match k with | 0 => i0 | 1 => i1 | 2 => i2 | 3 => i3 | 4 => i4 | 5 => i5 | 6 => i6 | _ => i7, ?_⟩
    intro k q hq
    match k, hq with
    | 0, hq => cases hq; exact hKn0
    | 1, hq => cases hq; exact hKn1
    | 2, hq => cases hq; exact hKn2
    | 3, hq => cases hq; exact hKn3
    | 4, hq => cases hq; exact hKn4
    | 5, hq => cases hq; exact hKn5
    | 6, hq => cases hq; exact hKn6
    | 7, hq => cases hq; exact hKn7
    | k + 8, hq => simp [vwCl] at hq
  obtain ⟨a1, ka1, cm1, fa1, ha1, hka1⟩ := Cond.arrayClass_spec (hts (.arrayClass .byte) (tb_in _ ac_byte))
  obtain ⟨a2, ka2, cm2, fa2, ha2, hka2⟩ := Cond.arrayClass_spec (hts (.arrayClass .int) (tb_in _ ac_int))
  obtain ⟨a3, ka3, cm3, fa3, ha3, hka3⟩ := Cond.arrayClass_spec (hts (.arrayClass .long) (tb_in _ ac_long))
  obtain ⟨a4, ka4, cm4, fa4, ha4, hka4⟩ := Cond.arrayClass_spec (hts (.arrayClass .boolean) (tb_in _ ac_boolean))
  obtain ⟨cm5, a5, ka5, fc5, fi5, ha5, hka5, fa5⟩ := Cond.arrayOver_spec (hts (.arrayOver (.object RX1)) (List.mem_of_getElem? (i := 103) (by decide +kernel)))
  obtain ⟨cm6, a6, ka6, fc6, fi6, ha6, hka6, fa6⟩ := Cond.arrayOver_spec (hts (.arrayOver (.object RX4)) (List.mem_of_getElem? (i := 216) (by decide +kernel)))
  obtain ⟨ca, hca⟩ : ∃ ca : Nat → ClassId, ca = fun k => match k with | 1 => a1 | 2 => a2 | 3 => a3 | 4 => a4 | 5 => a5 | _ => a6 := ⟨_, rfl⟩
  have hK : va_K (dC, dI) vwCl (tyL ca) s := by
    refine ⟨hKc, fun k q hq => ?_⟩
    subst hca
    match k, hq with
    | 0, hq => cases hq; exact ⟨fun n z => ⟨fun k h => (by cases h), ka1, ha1, cm1, hka1⟩, fa1⟩
    | 1, hq => cases hq; exact ⟨fun n z => ⟨fun k h => (by cases h), ka2, ha2, cm2, hka2⟩, fa2⟩
    | 2, hq => cases hq; exact ⟨fun n z => ⟨fun k h => (by cases h), ka3, ha3, cm3, hka3⟩, fa3⟩
    | 3, hq => cases hq; exact ⟨fun n z => ⟨fun k h => (by cases h), ka4, ha4, cm4, hka4⟩, fa4⟩
    | 4, hq => cases hq; exact ⟨fun n z => ⟨fun k h => (by cases h), ka5, ha5, cm5, hka5⟩, ka5, cm5, ha5, hka5, fc5, fa5⟩
    | 5, hq => cases hq; exact ⟨fun n z => ⟨fun k h => (by cases h), ka6, ha6, cm6, hka6⟩, ka6, cm6, ha6, hka6, fc6, fa6⟩
    | k + 6, hq => simp [tyL] at hq
  have hNG : NsG s := by
    refine ⟨fun w hw => ?_, va_AO.of (hts (.arrayOver (.object RX1)) (List.mem_of_getElem? (i := 103) (by decide +kernel))), va_AO.of (hts (.arrayOver (.object RX4)) (List.mem_of_getElem? (i := 216) (by decide +kernel)))⟩
    exact va_Nw.of ((by decide +kernel : ∀ w ∈ nestG, w.onTables = true) w hw) (hts w ((by decide +kernel : ∀ w ∈ nestG, w ∈ lw_tbl) w hw))
  have hNs : Nst s := fun w hw => hNG.1 w ((by decide +kernel : ∀ w ∈ nestL, w ∈ nestG) w hw)
  have hfl := flat_of_before _ hgv
  obtain ⟨sa, -, -, -, hsa, -⟩ := Cond.exactly_spec (hfl (.exactly (.string "LineChoice" 343) "java/lang/String") (by decide +kernel))
  have hXN : XN s.heap.size sa s := by
    refine ⟨fun w hw => va_Nw.of (xnL_tab w hw) (hts w ((by decide +kernel : ∀ w ∈ xnL, w ∈ lw_tbl) w hw)), vk_R.of (A := #[Value.ref b]) (hts (.stringRef RX6 343 rowTx) (List.mem_of_getElem? (i := 1024) (by decide +kernel))) hsa, ?_, ?_⟩
    · exact vx_Zqof (hts _ (List.mem_of_getElem? (i := 1012) (by decide +kernel))) (hts _ (List.mem_of_getElem? (i := 81) (by decide +kernel))) (hfl (.isRef (.static "java/lang/Throwable" "UNASSIGNED_STACK" "[Ljava/lang/StackTraceElement;")) (by decide +kernel)) (fun a ha h => by omega)
    · exact vx_Zqof (hts _ (List.mem_of_getElem? (i := 1014) (by decide +kernel))) (hts _ (List.mem_of_getElem? (i := 81) (by decide +kernel))) (hfl (.isRef (.static "java/lang/Throwable" "SUPPRESSED_SENTINEL" "Ljava/util/List;")) (by decide +kernel)) (fun a ha h => by omega)
  have htr : l.stackTraces = false := by unfold Launch.stackTraces; rw [hflags]; decide +kernel
  obtain ⟨r, σ, hq⟩ := hp L xs hL
  have htb : ∀ w ∈ TB, w.before #[Value.ref b] s = true := fun w hw => hts w (tb_in w hw)
  have hl0 := lv_entry ([.ref b]) (n := 8) (Nat.le_of_ble_eq_true rfl)
  rw [lg_entry_eq]
  have hlv : lv_args 0 ([.ref b] : List Value) = [(0, .ref b)] := rfl
  rw [hlv] at hl0
  refine law_made (D := (dC, dI)) (ca := ca) (B := s.heap.size) ?_ ⟨hx, hb, hml, hown, htb, hK, hNG⟩ s.heap [] _ ⟨fun k q h => by simp [wl] at h, by omega, fun _ _ _ => rfl⟩ va_S.rf hl0
  intro okg H locs ls hG hS hl1
  have lp := law_loop (p := p) (l := l) (e := e) (s := s) (m := m) (b := b) (B := s.heap.size) (fu := FU) (below := below) (meth := meth) (c := c) (D := (dC, dI)) (ca := ca) htr hX hbl rfl hXN (fun s => some (1, s)) ?_ 520 362 5215 0 memS (by decide) (by decide)
  · exact lp r σ hq ⟨hx, hb, hml, hown, htb, hK, hNs, by decide, by decide⟩ H locs ls ⟨hG.1, memS_St, memS_Vd⟩ hS (lv_sub hl1 [4, 3, 2, 1, 0] rfl)
  · intro cs9 sl9 s9
    refine s_iconst dL_law_1844 ?_
    exact s_lawret hr hlocks rfl dL_law_1845
set_option maxHeartbeats 4000000 in
theorem lw_walk (hp : LawPure) (l : Launch) (hflags : l.flags = flags0) (b : Addr) (xs : List Int32) : MetFree l x (headSpec (Jvm.Cond.code x code maxLocals ret :: tables_1) room_1) (lw_P b xs) (fun _ _ _ _ _ => True) lw_Q := by
  refine MetFree.of_bodyS (code := code) (maxLocals := maxLocals) (ret := ret) (by decide) ?_ ?_
  · intro args s m h hn
    obtain ⟨meth, c, h1, h2, h3, h4, h5, h6, -, -⟩ := Cond.code_spec hn (atoms_spec (ws := Jvm.Cond.code x code maxLocals ret :: tables_1) h _ List.mem_cons_self)
    exact ⟨meth, c, h1, h2, h3, h4, h5, h6⟩
  · intro p e s m args below meth c s₁ B hml0 hP _
    obtain ⟨rfl, hx, hbd, hgv⟩ := hP
    obtain ⟨scr, harrAt, hlist, hof, hsmall⟩ := hx
    obtain ⟨hcb, hkn, -, -⟩ := State.arrayAt?_spec harrAt
    have hown : s.vm.findClass R_law = some m.cls := findClass_of_methodNamed B.named
    have hts0 : ∀ c ∈ (Jvm.Cond.code x code maxLocals ret :: tables_1), c.before #[Value.ref b] s = true := atoms_spec (ws := Jvm.Cond.code x code maxLocals ret :: tables_1) B.pre
    have hts : ∀ w ∈ lw_tbl, w.before #[Value.ref b] s = true := k2_hts_sels lw_privs (fun w hw => hts0 w (List.mem_cons_of_mem _ hw)) lw_privs_ok
    have hml : c.maxLocals = 8 := B.maxLocals_eq (hts0 _ List.mem_cons_self)
    have X₀ : Stand p l e room_1 s m #[Value.ref b] below meth c s₁ [] 0 0 := Stand.of_body B
    have hh0 : s₁.heap = s.heap := by rw [B.state]; rfl
    have hsz : scr.slots.size = xs.length := by rw [← Array.length_toList, hlist, List.length_map]
    have hval : ∀ j : Nat, j < xs.length → scr.slots[j]? = some (.int (xs.getD j 0)) := fun j hj => by
      rw [← Array.getElem?_toList, hlist]
      simp [hj]
    have hbl : b < s.heap.size := (Array.getElem?_eq_some_iff.mp hcb).1
    have hX : va_X b xs.length (fun j => xs.getD j 0) s s.heap := ⟨scr, hcb, hof, hkn, hsz, hval⟩
    have K : W p l e room_1 s m #[Value.ref b] below meth c s₁.heap [] 0 0 (lw_Z below #[Value.ref b] s) (entryFrame m ([Value.ref b] : List Value).toArray 8) := by
      rw [hh0]
      exact whole_start_of hp l hflags hbd ⟨B.exec, B.bytes, B.returns, hml, hown, hts, hX, hbl, B.notSynchronized, hgv⟩
    obtain ⟨t, a1, o, b1, b2, b3⟩ := K s₁ rfl X₀
    exact ⟨t, o, a1, b1, b2, b3⟩
theorem lw_pre_spec {args : Array Value} {s : State} (h : (Jvm.Cond.and given_1 narrow_1).before args s = true) (hr : rest_1_c.before args s = true) : ∃ (b : Addr) (xs : List Int32), lw_P b xs args s := by
  have hs := flat_of_before _ h
  have hq := flat_of_before _ hr
  have hc : (Cond.count 1).before args s = true := hs _ (by decide +kernel)
  have harr : (Cond.arrayOf (.arg 0) .int).before args s = true := hs _ (by decide +kernel)
  have hle : (Cond.le (.length (.arg 0)) (.int 2048)).before args s = true := hs _ (by decide +kernel)
  have hlen : (Cond.isInt (.length (.arg 0))).before args s = true := hq _ (by decide +kernel)
  have hall : (Cond.all (.arg 0) (.isInt (.elem (.arg 0) (.index 0)))).before args s = true := hq _ (by decide +kernel)
  obtain ⟨b, xs, hb, hx⟩ := State.ints_of_pre rfl harr hlen hall
  have hsm : xs.length < 2 ^ 31 := hx.choose_spec.2.2.2
  have hev : (Term.length (.arg 0)).eval args s none [] s = some (.int xs.length.toInt32) := hx.length_eval hb
  have hv := Cond.le_ints hev (show (Term.int 2048).eval args s none [] s = some (.int 2048) from rfl)
  have hd : xs.length.toInt32 ≤ 2048 := by
    simpa [Cond.before, Cond.holds, hv] using hle
  have hN : xs.length ≤ 2048 := (Int32.ofNat_le_ofNat hsm (by decide)).mp (show Int32.ofNat xs.length ≤ Int32.ofNat 2048 from hd)
  exact ⟨b, xs, Cond.one_arg hc (show args[0]? = some (.ref b) from hb), hx, hN, h⟩
theorem lw_comes (hp : LawPure) (l : Launch) (hflags : l.flags = flags0) : Comes l x (Jvm.Cond.code x code maxLocals ret :: tables_1) room_1 (fun tb e args s => Calls_1 tb e args s ∧ rest_1 tb e args s ∧ Pre_1 tb e args s)
    (fun _ _ args s o t => lw_Q args s o t) := by
  intro p e ha hc hk s m args below hf hfit hheap happ hpre
  obtain ⟨b, xs, hP⟩ := lw_pre_spec hpre.2.2 hpre.2.1
  obtain ⟨k, o, h1, h2, h3, hQ⟩ := lw_walk hp l hflags b xs p e ha hc hk s m args below hf ((Spec.applies_iff_loose hf).mp happ).1 hP trivial
  exact ⟨k, o, h1, h2, h3, hQ⟩
theorem lw_frame {s t : State} {o : Outcome} {args : Array Value} (h : Framed s o t [] 601024 7293034) :
    Framed s o t (fieldLocs frame_1_writes args s ++ arrayLocs frame_1_arrays args s ++ staticLocs frame_1_statics s) 601024 7293034 := h
theorem lw_limb (hp : LawPure) (L : Cond) (hL : ∀ (args : Array Value) (s t : State), L.after args s (.returned (some (.int 1))) t = true) :
    ArmFor flags0 classFile x code maxLocals ret World_1 tables_1 room_1 Calls_1 rest_1 Pre_1
      (fun tb e a s o t => postC L tb e a s o t ∧ Framed s o t (fieldLocs frame_1_writes a s ++ arrayLocs frame_1_arrays a s ++ staticLocs frame_1_statics s) 601024 7293034) := by
  intro l hflags _ _ p e ha hc hk s m args below hf hfit hheap happ hpre
  obtain ⟨k, o, h1, h2, h3, rfl, hF⟩ := lw_comes hp l hflags p e ha hc hk s m args below hf hfit hheap happ hpre
  exact ⟨k, _, h1, h2, h3, hL args s _, lw_frame hF⟩
theorem whole_of (hp : LawPure) : Claimed_1_1 ∧ Claimed_1_2 := ⟨lw_limb hp limb_1_1 (fun args s t => by simp [limb_1_1, Cond.after, Cond.holds, Cond.value]), lw_limb hp limb_1_2 (fun args s t => Cond.after_iff.mpr (by
  first | (rw [show limb_1_2 = Cond.eq .result (.int 1) from rfl, Cond.eq_ints (x := 1) (y := 1) rfl rfl]; simp; done) | (simp [limb_1_2, Cond.value, Term.eval]; done)))⟩

