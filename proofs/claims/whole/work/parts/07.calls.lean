/-! ===== contracts, returns, calls ===== -/
def WS (y : MethodName) (bytes : ByteArray) (maxL : Nat) (ret : Option FieldType) : List Cond := .code y bytes maxL ret :: TB
def PcW (D : va_G) (ca : Nat → ClassId) (B : Nat) (σ : Mem) (As : List Value) : Array Value → State → Prop := va_Pc As (fun U => FW D ca B σ U.heap ∧ va_K D vwCl (tyL ca) U ∧ Nst U)
abbrev QcI (D : va_G) (ca : Nat → ClassId) (B : Nat) (r : Int) (σ' : Mem) : Array Value → State → Outcome → State → Prop := va_Qi (fun (x : Int32) (u : Mem) => x = Int32.ofInt r ∧ u = σ') (fun u t => FW D ca B u t.heap) (fun a => B ≤ a)
abbrev QcL (D : va_G) (ca : Nat → ClassId) (B : Nat) (r : Int) (σ' : Mem) : Array Value → State → Outcome → State → Prop := va_Ql (fun (x : Int64) (u : Mem) => x = Int64.ofInt r ∧ u = σ') (fun u t => FW D ca B u t.heap) (fun a => B ≤ a)
abbrev QcV (D : va_G) (ca : Nat → ClassId) (B : Nat) (_ : Int) (σ' : Mem) : Array Value → State → Outcome → State → Prop := va_Qv (fun (u : Mem) => u = σ') (fun u t => FW D ca B u t.heap) (fun a => B ≤ a)
/-- y's contract: where the pure word q answers r, σ', y returns r and leaves σ' -/
def CtI (y : MethodName) (bytes : ByteArray) (maxL : Nat) (ret : Option FieldType) (rm : Room) (B : Nat) (As : List Value) (σ : Mem) (q : PR) : Prop := ∀ (l : Launch) (D : va_G) (ca : Nat → ClassId) (r : Int) (σ' : Mem), q = some (r, σ') → Met l y (WS y bytes maxL ret) rm (PcW D ca B σ As) (QcI D ca B r σ') 0 0 (fun a => B ≤ a)
def CtL (y : MethodName) (bytes : ByteArray) (maxL : Nat) (ret : Option FieldType) (rm : Room) (B : Nat) (As : List Value) (σ : Mem) (q : PR) : Prop := ∀ (l : Launch) (D : va_G) (ca : Nat → ClassId) (r : Int) (σ' : Mem), q = some (r, σ') → Met l y (WS y bytes maxL ret) rm (PcW D ca B σ As) (QcL D ca B r σ') 0 0 (fun a => B ≤ a)
def CtV (y : MethodName) (bytes : ByteArray) (maxL : Nat) (ret : Option FieldType) (rm : Room) (B : Nat) (As : List Value) (σ : Mem) (q : PR) : Prop := ∀ (l : Launch) (D : va_G) (ca : Nat → ClassId) (r : Int) (σ' : Mem), q = some (r, σ') → Met l y (WS y bytes maxL ret) rm (PcW D ca B σ As) (QcV D ca B r σ') 0 0 (fun a => B ≤ a)
def CxI (ty : FieldType) (B : Nat) (X : Ctx) : Prop := match X with
  | (_, _, _, s, _, args, below, meth, _, D, ca, cells, slots, Z) => meth.sig.returnType = some ty ∧ meth.locks = false ∧ cells = 0 ∧ slots = 0 ∧ Z = fun r σ' => MQ below (QcI D ca B r σ') args s 0 0 (fun a => B ≤ a)
def CxL (B : Nat) (X : Ctx) : Prop := match X with
  | (_, _, _, s, _, args, below, meth, _, D, ca, cells, slots, Z) => meth.sig.returnType = some .long ∧ meth.locks = false ∧ cells = 0 ∧ slots = 0 ∧ Z = fun r σ' => MQ below (QcL D ca B r σ') args s 0 0 (fun a => B ≤ a)
def CxV (B : Nat) (X : Ctx) : Prop := match X with
  | (_, _, _, s, _, args, below, meth, _, D, ca, cells, slots, Z) => meth.sig.returnType = none ∧ meth.locks = false ∧ cells = 0 ∧ slots = 0 ∧ Z = fun r σ' => MQ below (QcV D ca B r σ') args s 0 0 (fun a => B ≤ a)
section CALLS
variable {cc : ByteArray} {own : String} {nL : Nat} {R : Room} {B : Nat} {X : Ctx} {q q1 q2 : PR} {σ : Mem} {pc : Nat} {lv lv' : List (Nat × Value)} {st : List Value}
theorem s_iret {v : Int} (hX : CxI .int B X) (hd : decode cc pc = .ok (.ireturn, 1)) : Sim cc own nL R B X (some (v, σ)) σ pc lv [iv v] := by
  obtain ⟨p, l, e, s, m, args, below, meth, c, D, ca, cells, slots, Z⟩ := X
  obtain ⟨hr, hlocks, hc, hs, hZ⟩ := hX
  intro r σ' hq ok H locs ls hF hS hl
  cases hq
  subst hZ
  subst hc
  subst hs
  exact W.iret (v := Int32.ofInt v) ok.1 ok.2.1 hr (fun t ht hW => ⟨⟨_, σ, rfl, ⟨rfl, rfl⟩, by show FW D ca B σ t.heap; rw [ht]; exact hF⟩, hS.F ht⟩) hS.2.2 hd hlocks
theorem s_zret {v : Int} (hX : CxI .boolean B X) (hd : decode cc pc = .ok (.ireturn, 1)) : Sim cc own nL R B X (rtz v σ) σ pc lv [iv v] := by
  obtain ⟨p, l, e, s, m, args, below, meth, c, D, ca, cells, slots, Z⟩ := X
  obtain ⟨hr, hlocks, hc, hs, hZ⟩ := hX
  intro r σ' hq ok H locs ls hF hS hl
  unfold rtz at hq
  by_cases h01 : v = 0 ∨ v = 1
  · rw [if_pos h01] at hq
    cases hq
    subst hZ
    subst hc
    subst hs
    have hn : narrow .boolean (.int (Int32.ofInt v)) = .int (Int32.ofInt v) := by rcases h01 with h | h <;> subst h <;> decide +kernel
    exact W.zret (v := Int32.ofInt v) ok.1 ok.2.1 hr hn (fun t ht hW => ⟨⟨_, σ, rfl, ⟨rfl, rfl⟩, by show FW D ca B σ t.heap; rw [ht]; exact hF⟩, hS.F ht⟩) hS.2.2 hd hlocks
  · rw [if_neg h01] at hq; cases hq
theorem s_lret {v : Int} (hX : CxL B X) (hd : decode cc pc = .ok (.lreturn, 1)) : Sim cc own nL R B X (some (v, σ)) σ pc lv [jv v] := by
  obtain ⟨p, l, e, s, m, args, below, meth, c, D, ca, cells, slots, Z⟩ := X
  obtain ⟨hr, hlocks, hc, hs, hZ⟩ := hX
  intro r σ' hq ok H locs ls hF hS hl
  cases hq
  subst hZ
  subst hc
  subst hs
  exact W.lret (v := Int64.ofInt v) ok.1 ok.2.1 hr (fun t ht hW => ⟨⟨_, σ, rfl, ⟨rfl, rfl⟩, by show FW D ca B σ t.heap; rw [ht]; exact hF⟩, hS.F ht⟩) hS.2.2 hd hlocks
theorem s_vret {v : Int} (hX : CxV B X) (hd : decode cc pc = .ok (.return_, 1)) : Sim cc own nL R B X (some (v, σ)) σ pc lv [] := by
  obtain ⟨p, l, e, s, m, args, below, meth, c, D, ca, cells, slots, Z⟩ := X
  obtain ⟨hr, hlocks, hc, hs, hZ⟩ := hX
  intro r σ' hq ok H locs ls hF hS hl
  cases hq
  subst hZ
  subst hc
  subst hs
  exact W.vret ok.1 ok.2.1 hr (fun t ht hW => ⟨⟨σ, rfl, rfl, by show FW D ca B σ t.heap; rw [ht]; exact hF⟩, hS.F ht⟩) hS.2.2 hd hlocks
theorem ctI_intro {y : MethodName} {bytes : ByteArray} {maxL : Nat} {ty : FieldType} {rm : Room} {As : List Value} (hy : plainName y.cls = true) (hown : y.cls = own) (hA : (lg_sl As).length ≤ maxL) (hlv : lv_args 0 As = lv)
    (k : ∀ X, CxI ty B X → Sim bytes own maxL rm B X q σ 0 lv []) : CtI y bytes maxL (some ty) rm B As σ q := by
  intro l D ca r σ' hq
  refine Met.ofW (cc := bytes) (maxL := maxL) (ret := some ty) hy rfl ?_
  intro p e s m args below meth c s₁ BL hml hv
  obtain ⟨rfl, hF, hK, hN⟩ := hv
  have hts := atoms_spec (ws := WS y bytes maxL (some ty)) BL.pre
  have hown2 : s.vm.findClass own = some m.cls := by rw [← hown]; exact findClass_of_methodNamed BL.named
  have hl := lv_entry As (n := maxL) hA
  rw [lg_entry_eq]
  rw [hlv] at hl
  exact k (p, l, e, s, m, As.toArray, below, meth, c, D, ca, 0, 0, fun r σ' => MQ below (QcI D ca B r σ') As.toArray s 0 0 (fun a => B ≤ a)) ⟨BL.returns, BL.notSynchronized, rfl, rfl, rfl⟩ r σ' hq ⟨BL.exec, BL.bytes, hml, hown2, fun w hw => hts w (List.mem_cons_of_mem _ hw), hK, hN, Nat.zero_le _, Nat.zero_le _⟩ s.heap [] _ hF va_S.rf hl
theorem ctL_intro {y : MethodName} {bytes : ByteArray} {maxL : Nat} {rm : Room} {As : List Value} (hy : plainName y.cls = true) (hown : y.cls = own) (hA : (lg_sl As).length ≤ maxL) (hlv : lv_args 0 As = lv)
    (k : ∀ X, CxL B X → Sim bytes own maxL rm B X q σ 0 lv []) : CtL y bytes maxL (some .long) rm B As σ q := by
  intro l D ca r σ' hq
  refine Met.ofW (cc := bytes) (maxL := maxL) (ret := some .long) hy rfl ?_
  intro p e s m args below meth c s₁ BL hml hv
  obtain ⟨rfl, hF, hK, hN⟩ := hv
  have hts := atoms_spec (ws := WS y bytes maxL (some .long)) BL.pre
  have hown2 : s.vm.findClass own = some m.cls := by rw [← hown]; exact findClass_of_methodNamed BL.named
  have hl := lv_entry As (n := maxL) hA
  rw [lg_entry_eq]
  rw [hlv] at hl
  exact k (p, l, e, s, m, As.toArray, below, meth, c, D, ca, 0, 0, fun r σ' => MQ below (QcL D ca B r σ') As.toArray s 0 0 (fun a => B ≤ a)) ⟨BL.returns, BL.notSynchronized, rfl, rfl, rfl⟩ r σ' hq ⟨BL.exec, BL.bytes, hml, hown2, fun w hw => hts w (List.mem_cons_of_mem _ hw), hK, hN, Nat.zero_le _, Nat.zero_le _⟩ s.heap [] _ hF va_S.rf hl
theorem ctV_intro {y : MethodName} {bytes : ByteArray} {maxL : Nat} {rm : Room} {As : List Value} (hy : plainName y.cls = true) (hown : y.cls = own) (hA : (lg_sl As).length ≤ maxL) (hlv : lv_args 0 As = lv)
    (k : ∀ X, CxV B X → Sim bytes own maxL rm B X q σ 0 lv []) : CtV y bytes maxL none rm B As σ q := by
  intro l D ca r σ' hq
  refine Met.ofW (cc := bytes) (maxL := maxL) (ret := none) hy rfl ?_
  intro p e s m args below meth c s₁ BL hml hv
  obtain ⟨rfl, hF, hK, hN⟩ := hv
  have hts := atoms_spec (ws := WS y bytes maxL none) BL.pre
  have hown2 : s.vm.findClass own = some m.cls := by rw [← hown]; exact findClass_of_methodNamed BL.named
  have hl := lv_entry As (n := maxL) hA
  rw [lg_entry_eq]
  rw [hlv] at hl
  exact k (p, l, e, s, m, As.toArray, below, meth, c, D, ca, 0, 0, fun r σ' => MQ below (QcV D ca B r σ') As.toArray s 0 0 (fun a => B ≤ a)) ⟨BL.returns, BL.notSynchronized, rfl, rfl, rfl⟩ r σ' hq ⟨BL.exec, BL.bytes, hml, hown2, fun w hw => hts w (List.mem_cons_of_mem _ hw), hK, hN, Nat.zero_le _, Nat.zero_le _⟩ s.heap [] _ hF va_S.rf hl
/-- what a call of y needs of the tables -/
def MeB (y : MethodName) (bytes : ByteArray) (maxL : Nat) (ret : Option FieldType) (n : Nat) : Prop := Cond.code y bytes maxL ret ∈ TB ∧ Cond.initialized y.cls ∈ TB ∧ (y.cls ≠ "java/lang/invoke/MethodHandle" ∧ y.cls ≠ "java/lang/invoke/VarHandle" ∧ (parseMethodDescriptor y.desc).map (fun d => d.parameters.length) = some n)
def MeV (y : MethodName) (bytes : ByteArray) (maxL : Nat) (ret : Option FieldType) (n : Nat) : Prop := MeB y bytes maxL ret n ∧ Cond.instanceMethod y ∈ TB ∧ Cond.selects y.cls y y ∈ TB
def MeS (y : MethodName) (bytes : ByteArray) (maxL : Nat) (ret : Option FieldType) (n : Nat) : Prop := MeB y bytes maxL ret n ∧ Cond.static y ∈ TB
/-- the callee's room within the caller's -/
def RmOk (rm R : Room) (maxL : Nat) : Prop := rm.cells = 0 ∧ rm.slots = 0 ∧ rm.frames + 1 ≤ R.frames ∧ 8 + (maxL + 11) + rm.locals ≤ R.locals
theorem good_WS {y : MethodName} {bytes : ByteArray} {maxL : Nat} {ret : Option FieldType} (h : Cond.code y bytes maxL ret ∈ TB) : GoodIn TB (WS y bytes maxL ret) := by
  intro w hw
  rcases List.mem_cons.mp hw with e | e
  · subst e; exact ⟨h, good_of_word (tb_good _ h)⟩
  · exact ⟨e, good_of_word (tb_good _ e)⟩
theorem pc_blind {D : va_G} {ca : Nat → ClassId} {σ : Mem} {As : List Value} : FrameBlind (PcW D ca B σ As) := by
  intro a U g mk h
  obtain ⟨h1, h2, h3, h4⟩ := h
  exact ⟨h1, h2, va_K.moved (u := U) (U := U.calling g mk a) (Vm.Alike.refl U.vm) h3, fun w hw => va_Nw.same (u := U) (U := U.calling g mk a) (by simp only [nestL, List.mem_cons, List.not_mem_nil, or_false] at hw; rcases hw with rfl | rfl | rfl | rfl <;> rfl) rfl (h4 w hw)⟩
theorem pc_at {D : va_G} {ca : Nat → ClassId} {As : List Value} {p : Program} {s : State} {m : MethodId} {args : Array Value} {c : Code} {cells slots : Nat} {H : Heap} (ok : Okx cc own nL p s m args c D ca R cells slots) (hF : FW D ca B σ H) : ∀ U : State, U.heap = H → s.WarmedH U.vm → PcW D ca B σ As As.toArray U :=
  fun U hU hW => ⟨rfl, by rw [hU]; exact hF, va_K.moved hW.alike ok.2.2.2.2.2.1, Nst.warm hW ok.2.2.2.2.2.2.1⟩
theorem call_B {y : MethodName} {bytes : ByteArray} {maxL : Nat} {ret : Option FieldType} {rm : Room} {n idx : Nat} {p : Program} {s : State} {m : MethodId} {args : Array Value} {c : Code} {D : va_G} {ca : Nat → ClassId} {cells slots : Nat} (ok : Okx cc own nL p s m args c D ca R cells slots) (me : MeB y bytes maxL ret n) (hlk : Cond.methodLink own idx y ∈ TB) (hrm : RmOk rm R maxL) : CallB R s args own idx y bytes maxL ret (WS y bytes maxL ret) rm 0 0 n :=
  callB_of n ok.2.2.2.2.1 (good_WS me.1) rfl hrm.1 hrm.2.1 (ok.2.2.2.2.1 _ me.2.1) (ok.2.2.2.2.1 _ hlk) me.2.2 hrm.2.2
theorem rc_of {D : va_G} {ca : Nat → ClassId} {p : Program} {s : State} {m : MethodId} {args : Array Value} {c : Code} {cells slots : Nat} {H : Heap} {b ci N : Nat} {C : String} {T : u_T} (ok : Okx cc own nL p s m args c D ca R cells slots) (hF : FW D ca B σ H) (hk : kd b = ci) (h8 : ci < 8) (hc : vwCl[ci]? = some (C, T, N)) : ∃ cell : Cell, H[B + b]? = some cell ∧ cell.vm.isStatics = false ∧ s.vm.findClass C = some cell.cls :=
  va_recv ok.2.2.2.2.2.1 hF.1 hc (q0 := b) (by rw [wl_at (kd_lt hk (by omega)) hk, cellR_obj h8])
theorem s_Vi {y : MethodName} {bytes : ByteArray} {maxL n idx b ci N : Nat} {ret : Option FieldType} {rm : Room} {As rest : List Value} {f : PR} {g : Int → Mem → PR} {T : u_T} (hd : decode cc pc = .ok (.invokevirtual idx, 3)) (hlk : Cond.methodLink own idx y ∈ TB) (me : MeV y bytes maxL ret n) (ct : CtI y bytes maxL ret rm B (rv B b :: As) σ f) (hk : kd b = ci) (hc : vwCl[ci]? = some (y.cls, T, N) ∧ ci < 8) (hst : As.reverse ++ rv B b :: rest = st) (hn : As.length = n) (hrm : RmOk rm R maxL) (hw : (rest.map fun v => v.category).sum ≤ 8)
    (k : ∀ r σ, Sim cc own nL R B X (g r σ) σ (pc + 3) lv (iv r :: rest)) : Sim cc own nL R B X (bnd f g) σ pc lv st := by
  obtain ⟨p, l, e, s, m, args, below, meth, c, D, ca, cells, slots, Z⟩ := X
  intro r σ' hq ok H locs ls hF hS hl
  obtain ⟨r1, σ1, h1, h2⟩ := bnd_some hq
  subst hst
  refine va_calli (S := Mem) (va_runV (As := As) (rest := rest) ⟨ok.1, ok.2.1, ok.2.2.1, ok.2.2.2.1, ok.2.2.2.2.1⟩ (ct l D ca r1 σ1 h1) ⟨call_B ok me.1 hlk hrm, ok.2.2.2.2.1 _ me.2.1, ok.2.2.2.2.1 _ me.2.2⟩ ⟨pc_blind, rc_of ok hF hk hc.2 hc.1, pc_at ok hF⟩ rfl hn hl.1 rfl (lv_room hw) hd ⟨ok.2.2.2.2.2.2.2.1, ok.2.2.2.2.2.2.2.2⟩) hS (fun _ _ h => h) (fun _ h => h) (fun x u t H1 locs1 ht hvm hp hB hz1 hk1 hS1 => ?_)
  obtain ⟨rfl, rfl⟩ := hp
  exact k r1 u r σ' h2 ok H1 locs1 ls (by rw [← ht]; exact hB) hS1 hl
theorem s_Si {y : MethodName} {bytes : ByteArray} {maxL n idx : Nat} {ret : Option FieldType} {rm : Room} {As rest : List Value} {f : PR} {g : Int → Mem → PR} (hd : decode cc pc = .ok (.invokestatic idx, 3)) (hlk : Cond.methodLink own idx y ∈ TB) (me : MeS y bytes maxL ret n) (ct : CtI y bytes maxL ret rm B As σ f) (hst : As.reverse ++ rest = st) (hn : As.length = n) (hrm : RmOk rm R maxL) (hw : (rest.map fun v => v.category).sum ≤ 8)
    (k : ∀ r σ, Sim cc own nL R B X (g r σ) σ (pc + 3) lv (iv r :: rest)) : Sim cc own nL R B X (bnd f g) σ pc lv st := by
  obtain ⟨p, l, e, s, m, args, below, meth, c, D, ca, cells, slots, Z⟩ := X
  intro r σ' hq ok H locs ls hF hS hl
  obtain ⟨r1, σ1, h1, h2⟩ := bnd_some hq
  subst hst
  refine va_calli (S := Mem) (va_runS (As := As) (rest := rest) ⟨ok.1, ok.2.1, ok.2.2.1, ok.2.2.2.1, ok.2.2.2.2.1⟩ (ct l D ca r1 σ1 h1) ⟨call_B ok me.1 hlk hrm, ok.2.2.2.2.1 _ me.2⟩ ⟨pc_blind, pc_at ok hF⟩ rfl hn hl.1 rfl (lv_room hw) hd ⟨ok.2.2.2.2.2.2.2.1, ok.2.2.2.2.2.2.2.2⟩) hS (fun _ _ h => h) (fun _ h => h) (fun x u t H1 locs1 ht hvm hp hB hz1 hk1 hS1 => ?_)
  obtain ⟨rfl, rfl⟩ := hp
  exact k r1 u r σ' h2 ok H1 locs1 ls (by rw [← ht]; exact hB) hS1 hl
theorem s_Ni {y : MethodName} {bytes : ByteArray} {maxL n idx : Nat} {ret : Option FieldType} {rm : Room} {As rest : List Value} {f : PR} {g : Int → Mem → PR} {host : String} (hd : decode cc pc = .ok (.invokestatic idx, 3)) (hlk : Cond.methodLinkNest own idx y host ∈ nestL) (me : MeS y bytes maxL ret n) (ct : CtI y bytes maxL ret rm B As σ f) (hst : As.reverse ++ rest = st) (hn : As.length = n) (hrm : RmOk rm R maxL) (hw : (rest.map fun v => v.category).sum ≤ 8)
    (k : ∀ r σ, Sim cc own nL R B X (g r σ) σ (pc + 3) lv (iv r :: rest)) : Sim cc own nL R B X (bnd f g) σ pc lv st := by
  obtain ⟨p, l, e, s, m, args, below, meth, c, D, ca, cells, slots, Z⟩ := X
  intro r σ' hq ok H locs ls hF hS hl
  obtain ⟨r1, σ1, h1, h2⟩ := bnd_some hq
  subst hst
  refine va_calli (S := Mem) (va_runSN (As := As) (rest := rest) (host := host) ⟨ok.1, ok.2.1, ok.2.2.1, ok.2.2.2.1, ok.2.2.2.2.1⟩ (ct l D ca r1 σ1 h1) ⟨va_cnB n ok.2.2.2.2.1 (good_WS me.1.1) rfl hrm.1 hrm.2.1 (ok.2.2.2.2.2.2.1 _ hlk) (ok.2.2.2.2.1 _ me.1.2.1) me.1.2.2 hrm.2.2, ok.2.2.2.2.1 _ me.2, trivial⟩ ⟨pc_blind, pc_at ok hF⟩ rfl hn hl.1 rfl (lv_room hw) hd ⟨ok.2.2.2.2.2.2.2.1, ok.2.2.2.2.2.2.2.2⟩) hS (fun _ _ h => h) (fun _ h => h) (fun x u t H1 locs1 ht hvm hp hB hz1 hk1 hS1 => ?_)
  obtain ⟨rfl, rfl⟩ := hp
  exact k r1 u r σ' h2 ok H1 locs1 ls (by rw [← ht]; exact hB) hS1 hl
theorem s_Vl {y : MethodName} {bytes : ByteArray} {maxL n idx b ci N : Nat} {ret : Option FieldType} {rm : Room} {As rest : List Value} {f : PR} {g : Int → Mem → PR} {T : u_T} (hd : decode cc pc = .ok (.invokevirtual idx, 3)) (hlk : Cond.methodLink own idx y ∈ TB) (me : MeV y bytes maxL ret n) (ct : CtL y bytes maxL ret rm B (rv B b :: As) σ f) (hk : kd b = ci) (hc : vwCl[ci]? = some (y.cls, T, N) ∧ ci < 8) (hst : As.reverse ++ rv B b :: rest = st) (hn : As.length = n) (hrm : RmOk rm R maxL) (hw : (rest.map fun v => v.category).sum ≤ 8)
    (k : ∀ r σ, Sim cc own nL R B X (g r σ) σ (pc + 3) lv (jv r :: rest)) : Sim cc own nL R B X (bnd f g) σ pc lv st := by
  obtain ⟨p, l, e, s, m, args, below, meth, c, D, ca, cells, slots, Z⟩ := X
  intro r σ' hq ok H locs ls hF hS hl
  obtain ⟨r1, σ1, h1, h2⟩ := bnd_some hq
  subst hst
  refine va_calll (S := Mem) (va_runV (As := As) (rest := rest) ⟨ok.1, ok.2.1, ok.2.2.1, ok.2.2.2.1, ok.2.2.2.2.1⟩ (ct l D ca r1 σ1 h1) ⟨call_B ok me.1 hlk hrm, ok.2.2.2.2.1 _ me.2.1, ok.2.2.2.2.1 _ me.2.2⟩ ⟨pc_blind, rc_of ok hF hk hc.2 hc.1, pc_at ok hF⟩ rfl hn hl.1 rfl (lv_room hw) hd ⟨ok.2.2.2.2.2.2.2.1, ok.2.2.2.2.2.2.2.2⟩) hS (fun _ _ h => h) (fun _ h => h) (fun x u t H1 locs1 ht hvm hp hB hz1 hk1 hS1 => ?_)
  obtain ⟨rfl, rfl⟩ := hp
  exact k r1 u r σ' h2 ok H1 locs1 ls (by rw [← ht]; exact hB) hS1 hl
theorem s_Sl {y : MethodName} {bytes : ByteArray} {maxL n idx : Nat} {ret : Option FieldType} {rm : Room} {As rest : List Value} {f : PR} {g : Int → Mem → PR} (hd : decode cc pc = .ok (.invokestatic idx, 3)) (hlk : Cond.methodLink own idx y ∈ TB) (me : MeS y bytes maxL ret n) (ct : CtL y bytes maxL ret rm B As σ f) (hst : As.reverse ++ rest = st) (hn : As.length = n) (hrm : RmOk rm R maxL) (hw : (rest.map fun v => v.category).sum ≤ 8)
    (k : ∀ r σ, Sim cc own nL R B X (g r σ) σ (pc + 3) lv (jv r :: rest)) : Sim cc own nL R B X (bnd f g) σ pc lv st := by
  obtain ⟨p, l, e, s, m, args, below, meth, c, D, ca, cells, slots, Z⟩ := X
  intro r σ' hq ok H locs ls hF hS hl
  obtain ⟨r1, σ1, h1, h2⟩ := bnd_some hq
  subst hst
  refine va_calll (S := Mem) (va_runS (As := As) (rest := rest) ⟨ok.1, ok.2.1, ok.2.2.1, ok.2.2.2.1, ok.2.2.2.2.1⟩ (ct l D ca r1 σ1 h1) ⟨call_B ok me.1 hlk hrm, ok.2.2.2.2.1 _ me.2⟩ ⟨pc_blind, pc_at ok hF⟩ rfl hn hl.1 rfl (lv_room hw) hd ⟨ok.2.2.2.2.2.2.2.1, ok.2.2.2.2.2.2.2.2⟩) hS (fun _ _ h => h) (fun _ h => h) (fun x u t H1 locs1 ht hvm hp hB hz1 hk1 hS1 => ?_)
  obtain ⟨rfl, rfl⟩ := hp
  exact k r1 u r σ' h2 ok H1 locs1 ls (by rw [← ht]; exact hB) hS1 hl
theorem s_Nl {y : MethodName} {bytes : ByteArray} {maxL n idx : Nat} {ret : Option FieldType} {rm : Room} {As rest : List Value} {f : PR} {g : Int → Mem → PR} {host : String} (hd : decode cc pc = .ok (.invokestatic idx, 3)) (hlk : Cond.methodLinkNest own idx y host ∈ nestL) (me : MeS y bytes maxL ret n) (ct : CtL y bytes maxL ret rm B As σ f) (hst : As.reverse ++ rest = st) (hn : As.length = n) (hrm : RmOk rm R maxL) (hw : (rest.map fun v => v.category).sum ≤ 8)
    (k : ∀ r σ, Sim cc own nL R B X (g r σ) σ (pc + 3) lv (jv r :: rest)) : Sim cc own nL R B X (bnd f g) σ pc lv st := by
  obtain ⟨p, l, e, s, m, args, below, meth, c, D, ca, cells, slots, Z⟩ := X
  intro r σ' hq ok H locs ls hF hS hl
  obtain ⟨r1, σ1, h1, h2⟩ := bnd_some hq
  subst hst
  refine va_calll (S := Mem) (va_runSN (As := As) (rest := rest) (host := host) ⟨ok.1, ok.2.1, ok.2.2.1, ok.2.2.2.1, ok.2.2.2.2.1⟩ (ct l D ca r1 σ1 h1) ⟨va_cnB n ok.2.2.2.2.1 (good_WS me.1.1) rfl hrm.1 hrm.2.1 (ok.2.2.2.2.2.2.1 _ hlk) (ok.2.2.2.2.1 _ me.1.2.1) me.1.2.2 hrm.2.2, ok.2.2.2.2.1 _ me.2, trivial⟩ ⟨pc_blind, pc_at ok hF⟩ rfl hn hl.1 rfl (lv_room hw) hd ⟨ok.2.2.2.2.2.2.2.1, ok.2.2.2.2.2.2.2.2⟩) hS (fun _ _ h => h) (fun _ h => h) (fun x u t H1 locs1 ht hvm hp hB hz1 hk1 hS1 => ?_)
  obtain ⟨rfl, rfl⟩ := hp
  exact k r1 u r σ' h2 ok H1 locs1 ls (by rw [← ht]; exact hB) hS1 hl
theorem s_Vv {y : MethodName} {bytes : ByteArray} {maxL n idx b ci N : Nat} {ret : Option FieldType} {rm : Room} {As rest : List Value} {f : PR} {g : Int → Mem → PR} {T : u_T} (hd : decode cc pc = .ok (.invokevirtual idx, 3)) (hlk : Cond.methodLink own idx y ∈ TB) (me : MeV y bytes maxL ret n) (ct : CtV y bytes maxL ret rm B (rv B b :: As) σ f) (hk : kd b = ci) (hc : vwCl[ci]? = some (y.cls, T, N) ∧ ci < 8) (hst : As.reverse ++ rv B b :: rest = st) (hn : As.length = n) (hrm : RmOk rm R maxL) (hw : (rest.map fun v => v.category).sum ≤ 8)
    (k : ∀ r σ, Sim cc own nL R B X (g r σ) σ (pc + 3) lv (rest)) : Sim cc own nL R B X (bnd f g) σ pc lv st := by
  obtain ⟨p, l, e, s, m, args, below, meth, c, D, ca, cells, slots, Z⟩ := X
  intro r σ' hq ok H locs ls hF hS hl
  obtain ⟨r1, σ1, h1, h2⟩ := bnd_some hq
  subst hst
  refine va_callv (S := Mem) (va_runV (As := As) (rest := rest) ⟨ok.1, ok.2.1, ok.2.2.1, ok.2.2.2.1, ok.2.2.2.2.1⟩ (ct l D ca r1 σ1 h1) ⟨call_B ok me.1 hlk hrm, ok.2.2.2.2.1 _ me.2.1, ok.2.2.2.2.1 _ me.2.2⟩ ⟨pc_blind, rc_of ok hF hk hc.2 hc.1, pc_at ok hF⟩ rfl hn hl.1 rfl (lv_room hw) hd ⟨ok.2.2.2.2.2.2.2.1, ok.2.2.2.2.2.2.2.2⟩) hS (fun _ _ h => h) (fun _ h => h) (fun u t H1 locs1 ht hvm hp hB hz1 hk1 hS1 => ?_)
  obtain rfl := hp
  exact k r1 u r σ' h2 ok H1 locs1 ls (by rw [← ht]; exact hB) hS1 hl
theorem s_Sv {y : MethodName} {bytes : ByteArray} {maxL n idx : Nat} {ret : Option FieldType} {rm : Room} {As rest : List Value} {f : PR} {g : Int → Mem → PR} (hd : decode cc pc = .ok (.invokestatic idx, 3)) (hlk : Cond.methodLink own idx y ∈ TB) (me : MeS y bytes maxL ret n) (ct : CtV y bytes maxL ret rm B As σ f) (hst : As.reverse ++ rest = st) (hn : As.length = n) (hrm : RmOk rm R maxL) (hw : (rest.map fun v => v.category).sum ≤ 8)
    (k : ∀ r σ, Sim cc own nL R B X (g r σ) σ (pc + 3) lv (rest)) : Sim cc own nL R B X (bnd f g) σ pc lv st := by
  obtain ⟨p, l, e, s, m, args, below, meth, c, D, ca, cells, slots, Z⟩ := X
  intro r σ' hq ok H locs ls hF hS hl
  obtain ⟨r1, σ1, h1, h2⟩ := bnd_some hq
  subst hst
  refine va_callv (S := Mem) (va_runS (As := As) (rest := rest) ⟨ok.1, ok.2.1, ok.2.2.1, ok.2.2.2.1, ok.2.2.2.2.1⟩ (ct l D ca r1 σ1 h1) ⟨call_B ok me.1 hlk hrm, ok.2.2.2.2.1 _ me.2⟩ ⟨pc_blind, pc_at ok hF⟩ rfl hn hl.1 rfl (lv_room hw) hd ⟨ok.2.2.2.2.2.2.2.1, ok.2.2.2.2.2.2.2.2⟩) hS (fun _ _ h => h) (fun _ h => h) (fun u t H1 locs1 ht hvm hp hB hz1 hk1 hS1 => ?_)
  obtain rfl := hp
  exact k r1 u r σ' h2 ok H1 locs1 ls (by rw [← ht]; exact hB) hS1 hl
theorem s_Nv {y : MethodName} {bytes : ByteArray} {maxL n idx : Nat} {ret : Option FieldType} {rm : Room} {As rest : List Value} {f : PR} {g : Int → Mem → PR} {host : String} (hd : decode cc pc = .ok (.invokestatic idx, 3)) (hlk : Cond.methodLinkNest own idx y host ∈ nestL) (me : MeS y bytes maxL ret n) (ct : CtV y bytes maxL ret rm B As σ f) (hst : As.reverse ++ rest = st) (hn : As.length = n) (hrm : RmOk rm R maxL) (hw : (rest.map fun v => v.category).sum ≤ 8)
    (k : ∀ r σ, Sim cc own nL R B X (g r σ) σ (pc + 3) lv (rest)) : Sim cc own nL R B X (bnd f g) σ pc lv st := by
  obtain ⟨p, l, e, s, m, args, below, meth, c, D, ca, cells, slots, Z⟩ := X
  intro r σ' hq ok H locs ls hF hS hl
  obtain ⟨r1, σ1, h1, h2⟩ := bnd_some hq
  subst hst
  refine va_callv (S := Mem) (va_runSN (As := As) (rest := rest) (host := host) ⟨ok.1, ok.2.1, ok.2.2.1, ok.2.2.2.1, ok.2.2.2.2.1⟩ (ct l D ca r1 σ1 h1) ⟨va_cnB n ok.2.2.2.2.1 (good_WS me.1.1) rfl hrm.1 hrm.2.1 (ok.2.2.2.2.2.2.1 _ hlk) (ok.2.2.2.2.1 _ me.1.2.1) me.1.2.2 hrm.2.2, ok.2.2.2.2.1 _ me.2, trivial⟩ ⟨pc_blind, pc_at ok hF⟩ rfl hn hl.1 rfl (lv_room hw) hd ⟨ok.2.2.2.2.2.2.2.1, ok.2.2.2.2.2.2.2.2⟩) hS (fun _ _ h => h) (fun _ h => h) (fun u t H1 locs1 ht hvm hp hB hz1 hk1 hS1 => ?_)
  obtain rfl := hp
  exact k r1 u r σ' h2 ok H1 locs1 ls (by rw [← ht]; exact hB) hS1 hl
end CALLS
/-- class ci's name -/
def CN (ci : Nat) (C : String) : Prop := ∃ T N, vwCl[ci]? = some (C, T, N) ∧ ci < 8

