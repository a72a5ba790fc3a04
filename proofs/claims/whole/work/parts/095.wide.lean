section WIDE
variable {p : Program} {l : Launch} {e : Env} {R : Room} {s : State} {m : MethodId} {args : Array Value} {below : List Frame} {meth : Method} {c : Code} {H : Heap} {locs : List Loc} {cells slots : Nat} {Q : State → Prop}
variable {y : MethodName} {bytes cc : ByteArray} {maxL nL mc ms n index : Nat} {ret : Option FieldType} {ws : List Cond} {rm : Room} {Pc : Array Value → State → Prop} {Qc : Array Value → State → Outcome → State → Prop} {free : Addr → Prop} {Ts : List Cond} {own C : String} {b : Addr} {As rest : List Value} {g : JFrame}
/-- a call with up to sixteen words below it on the stack -/
theorem run_V16 (S : CallFix p m c cc nL s args Ts own) (hM : Met l y ws rm Pc Qc mc ms free) (hrc : rm.cells = mc) (hrs : rm.slots = ms) (hfr : rm.frames + 1 ≤ R.frames) (hlo : 16 + (maxL + 11) + rm.locals ≤ R.locals) (hws : ∀ w ∈ ws, ∀ (a' : Array Value) (U : State), s.WarmedH U.vm → w.before a' U = true) (hcw : Cond.code y bytes maxL ret ∈ ws) (hcode : (Cond.code y bytes maxL ret).before args s = true) (hini : (Cond.initialized y.cls).before args s = true) (hy : y.cls ≠ "java/lang/invoke/MethodHandle" ∧ y.cls ≠ "java/lang/invoke/VarHandle") (hlen : ∀ sig, parseMethodDescriptor y.desc = some sig → n = sig.parameters.length) (hl : (Cond.methodLink own index y).before args s = true) (hin : (Cond.instanceMethod y).before args s = true) (hse : (Cond.selects C y y).before args s = true) (hp : PreV s H C b Pc As)
    (hg : g.method = m) (hn : As.length = n) (hsize : g.locals.size = nL) (hstack : g.stack = As.reverse ++ .ref b :: rest) (hW : 2 * g.monitorRoom + (rest.map fun v => v.category).sum ≤ 16) (hdg : decode cc g.pc = .ok (.invokevirtual index, 3)) (hf : cells + mc ≤ R.cells ∧ slots + ms ≤ R.slots) :
    va_Run p l e R s m args below meth c H locs cells slots mc ms g rest (Qc (Value.ref b :: As).toArray) (free) := by
  have hK : Back l R p e below s args y 3 16 (PreOf R mc ms Pc) (PostOf Qc mc ms free) := back_of (bytes := bytes) (maxL := maxL) (ret := ret) hM hp.1 hrc hrs hfr hlo hws hcw (fun a' U hW => word_at hW (Or.inl (by first | rfl | simp [Cond.onTables, Cond.keeps, Cond.steady])) hini)
  obtain ⟨hx, hb, hml, ho, -⟩ := S
  obtain ⟨-, ⟨cellB, hcB, hoB, hclB⟩, hPc⟩ := hp
  intro T hT X
  obtain ⟨v, vm₁, ⟨U', l2, c2, s2⟩, hW₁, X', ⟨g', mk, t, L, e1, e2, hq, h1, hL, h2, h3⟩, st⟩ := callV X hx (C := C) (bytes := bytes) (maxL := maxL) (ret := ret) ho hl hin hse hcode hy hK (by rw [hT]; exact hcB) hoB hclB hg (hsize.trans hml.symm) (argsL := As) (rest := rest) (fun sig h => hn.trans (hlen sig h)) hstack hW (by rw [hb]; exact hdg)
    (fun vm₁ hW₁ => ⟨hf.1, hf.2, hPc (T.setVm vm₁) hT hW₁⟩)
  dsimp only [Pt.U, Pt.locs, Pt.cells, Pt.slots] at X' e1 e2 h1 h2 h3 st
  subst h1; subst h2; subst h3
  exact ⟨v, (T.setVm vm₁).calling g' mk (Value.ref b :: As).toArray, t, U', L, hT, X', hL, e1, e2, hq, st⟩
theorem run_S16 (S : CallFix p m c cc nL s args Ts own) (hM : Met l y ws rm Pc Qc mc ms free) (hrc : rm.cells = mc) (hrs : rm.slots = ms) (hfr : rm.frames + 1 ≤ R.frames) (hlo : 16 + (maxL + 11) + rm.locals ≤ R.locals) (hws : ∀ w ∈ ws, ∀ (a' : Array Value) (U : State), s.WarmedH U.vm → w.before a' U = true) (hcw : Cond.code y bytes maxL ret ∈ ws) (hcode : (Cond.code y bytes maxL ret).before args s = true) (hini : (Cond.initialized y.cls).before args s = true) (hy : y.cls ≠ "java/lang/invoke/MethodHandle" ∧ y.cls ≠ "java/lang/invoke/VarHandle") (hlen : ∀ sig, parseMethodDescriptor y.desc = some sig → n = sig.parameters.length) (hl : (Cond.methodLink own index y).before args s = true) (hstt : (Cond.static y).before args s = true) (hp : PreS s H Pc As)
    (hg : g.method = m) (hn : As.length = n) (hsize : g.locals.size = nL) (hstack : g.stack = As.reverse ++ rest) (hW : 2 * g.monitorRoom + (rest.map fun v => v.category).sum ≤ 16) (hdg : decode cc g.pc = .ok (.invokestatic index, 3)) (hf : cells + mc ≤ R.cells ∧ slots + ms ≤ R.slots) :
    va_Run p l e R s m args below meth c H locs cells slots mc ms g rest (Qc As.toArray) (free) := by
  have hK : Back l R p e below s args y 3 16 (PreOf R mc ms Pc) (PostOf Qc mc ms free) := back_of (bytes := bytes) (maxL := maxL) (ret := ret) hM hp.1 hrc hrs hfr hlo hws hcw (fun a' U hW => word_at hW (Or.inl (by first | rfl | simp [Cond.onTables, Cond.keeps, Cond.steady])) hini)
  obtain ⟨hx, hb, hml, ho, -⟩ := S
  intro T hT X
  obtain ⟨v, vm₁, ⟨U', l2, c2, s2⟩, hW₁, X', ⟨g', mk, t, L, e1, e2, hq, h1, hL, h2, h3⟩, st⟩ := callS X hx (bytes := bytes) (maxL := maxL) (ret := ret) ho hl hstt hini hcode hy hK hg (hsize.trans hml.symm) (argsL := As) (rest := rest) (fun sig h => hn.trans (hlen sig h)) hstack hW (by rw [hb]; exact hdg)
    (fun vm₁ hW₁ => ⟨hf.1, hf.2, hp.2 (T.setVm vm₁) hT hW₁⟩)
  dsimp only [Pt.U, Pt.locs, Pt.cells, Pt.slots] at X' e1 e2 h1 h2 h3 st
  subst h1; subst h2; subst h3
  exact ⟨v, (T.setVm vm₁).calling g' mk As.toArray, t, U', L, hT, X', hL, e1, e2, hq, st⟩
end WIDE
section WIDE2
variable {cc : ByteArray} {own : String} {nL : Nat} {R : Room} {B : Nat} {X : Ctx} {σ : Mem} {pc : Nat} {lv : List (Nat × Value)} {st : List Value}
def RmOk16 (rm R : Room) (maxL : Nat) : Prop := rm.cells = 0 ∧ rm.slots = 0 ∧ rm.frames + 1 ≤ R.frames ∧ 16 + (maxL + 11) + rm.locals ≤ R.locals
theorem lv_room16 {m : MethodId} {ls : Array Slot} {rest st : List Value} (h : (st.map fun v => v.category).sum ≤ 16) : 2 * (F0 m pc ls rest).monitorRoom + (st.map fun v => v.category).sum ≤ 16 := by
  have : (F0 m pc ls rest).monitorRoom = 0 := rfl
  omega
theorem s_Wi {y : MethodName} {bytes : ByteArray} {maxL n idx b ci N : Nat} {ret : Option FieldType} {rm : Room} {As rest : List Value} {f : PR} {g : Int → Mem → PR} {T : u_T} (hd : decode cc pc = .ok (.invokevirtual idx, 3)) (hlk : Cond.methodLink own idx y ∈ TB) (me : MeV y bytes maxL ret n) (ct : CtI y bytes maxL ret rm B (rv B b :: As) σ f) (hk : kd b = ci) (hc : vwCl[ci]? = some (y.cls, T, N) ∧ ci < 8) (hst : As.reverse ++ rv B b :: rest = st) (hn : As.length = n) (hrm : RmOk16 rm R maxL) (hw : (rest.map fun v => v.category).sum ≤ 16)
    (k : ∀ r σ, Sim cc own nL R B X (g r σ) σ (pc + 3) lv (iv r :: rest)) : Sim cc own nL R B X (bnd f g) σ pc lv st := by
  obtain ⟨p, l, e, s, m, args, below, meth, c, D, ca, cells, slots, Z⟩ := X
  intro r σ' hq ok H locs ls hF hS hl
  obtain ⟨r1, σ1, h1, h2⟩ := bnd_some hq
  subst hst
  refine va_calli (S := Mem) (run_V16 (As := As) (rest := rest) (bytes := bytes) (maxL := maxL) (ret := ret) ⟨ok.1, ok.2.1, ok.2.2.1, ok.2.2.2.1, ok.2.2.2.2.1⟩ (ct l D ca r1 σ1 h1) hrm.1 hrm.2.1 hrm.2.2.1 hrm.2.2.2 (pay_in ok.2.2.2.2.1 (good_WS me.1.1)) List.mem_cons_self (ok.2.2.2.2.1 _ me.1.1) (ok.2.2.2.2.1 _ me.1.2.1) ⟨me.1.2.2.1, me.1.2.2.2.1⟩ (fun sig h => by have h2 := me.1.2.2.2.2; rw [h] at h2; exact (Option.some.inj h2).symm) (ok.2.2.2.2.1 _ hlk) (ok.2.2.2.2.1 _ me.2.1) (ok.2.2.2.2.1 _ me.2.2) ⟨pc_blind, rc_of ok hF hk hc.2 hc.1, pc_at ok hF⟩ rfl hn hl.1 rfl (lv_room16 hw) hd ⟨ok.2.2.2.2.2.2.2.1, ok.2.2.2.2.2.2.2.2⟩) hS (fun _ _ h => h) (fun _ h => h) (fun x u t H1 locs1 ht hvm hp hB hz1 hk1 hS1 => ?_)
  obtain ⟨rfl, rfl⟩ := hp
  exact k r1 u r σ' h2 ok H1 locs1 ls (by rw [← ht]; exact hB) hS1 hl
theorem s_Xi {y : MethodName} {bytes : ByteArray} {maxL n idx : Nat} {ret : Option FieldType} {rm : Room} {As rest : List Value} {f : PR} {g : Int → Mem → PR} (hd : decode cc pc = .ok (.invokestatic idx, 3)) (hlk : Cond.methodLink own idx y ∈ TB) (me : MeS y bytes maxL ret n) (ct : CtI y bytes maxL ret rm B As σ f) (hst : As.reverse ++ rest = st) (hn : As.length = n) (hrm : RmOk16 rm R maxL) (hw : (rest.map fun v => v.category).sum ≤ 16)
    (k : ∀ r σ, Sim cc own nL R B X (g r σ) σ (pc + 3) lv (iv r :: rest)) : Sim cc own nL R B X (bnd f g) σ pc lv st := by
  obtain ⟨p, l, e, s, m, args, below, meth, c, D, ca, cells, slots, Z⟩ := X
  intro r σ' hq ok H locs ls hF hS hl
  obtain ⟨r1, σ1, h1, h2⟩ := bnd_some hq
  subst hst
  refine va_calli (S := Mem) (run_S16 (As := As) (rest := rest) (bytes := bytes) (maxL := maxL) (ret := ret) ⟨ok.1, ok.2.1, ok.2.2.1, ok.2.2.2.1, ok.2.2.2.2.1⟩ (ct l D ca r1 σ1 h1) hrm.1 hrm.2.1 hrm.2.2.1 hrm.2.2.2 (pay_in ok.2.2.2.2.1 (good_WS me.1.1)) List.mem_cons_self (ok.2.2.2.2.1 _ me.1.1) (ok.2.2.2.2.1 _ me.1.2.1) ⟨me.1.2.2.1, me.1.2.2.2.1⟩ (fun sig h => by have h2 := me.1.2.2.2.2; rw [h] at h2; exact (Option.some.inj h2).symm) (ok.2.2.2.2.1 _ hlk) (ok.2.2.2.2.1 _ me.2) ⟨pc_blind, pc_at ok hF⟩ rfl hn hl.1 rfl (lv_room16 hw) hd ⟨ok.2.2.2.2.2.2.2.1, ok.2.2.2.2.2.2.2.2⟩) hS (fun _ _ h => h) (fun _ h => h) (fun x u t H1 locs1 ht hvm hp hB hz1 hk1 hS1 => ?_)
  obtain ⟨rfl, rfl⟩ := hp
  exact k r1 u r σ' h2 ok H1 locs1 ls (by rw [← ht]; exact hB) hS1 hl
end WIDE2
