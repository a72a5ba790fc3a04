section XC
/-! an exception class whose constructor names its superclass's by another entry of its pool than 7 (here 13): the walk of 'new; dup; ldc_w; invokespecial; athrow' for it; xc_chain, xc_throw and xc_throwSW follow the library's chainS, ctorThrowS and the printed vx_throwSW, with the first link's number and bytes as parameters -/
def xc_chainAtoms (X : String) (ix : Nat) (rx : ByteArray) : List String → List Cond
  | [] => Bundle.passSAtoms X Bundle.tN ix rx
  | Y :: r => Bundle.passSAtoms X Y ix rx ++ Bundle.chainSAtoms Y r
def xc_atoms (own : String) (ic : Nat) (X : String) (ix : Nat) (rx : ByteArray) (names : List String) : List Cond :=
  Bundle.throwableAtoms ++ Bundle.throwableSAtoms ++ xc_chainAtoms X ix rx names ++
  [.methodLink own ic (Bundle.initS X), .instantiable X 6, .castable X X, .selects X Bundle.tFill0 Bundle.tFill0, .selects X Bundle.tFill Bundle.tFill,
   .lays X Bundle.tN "cause" "Ljava/lang/Throwable;", .lays X Bundle.tN "stackTrace" Bundle.steD, .lays X Bundle.tN "suppressedExceptions" Bundle.listD, .lays X Bundle.tN "detailMessage" "Ljava/lang/String;",
   .isRef (.static Bundle.tN "UNASSIGNED_STACK" Bundle.steD), .isRef (.static Bundle.tN "SUPPRESSED_SENTINEL" Bundle.listD),
   .fieldLink Bundle.tN 198 Bundle.tN "backtrace" "Ljava/lang/Object;", .lays Bundle.tN Bundle.tN "backtrace" "Ljava/lang/Object;", .lays X Bundle.tN "backtrace" "Ljava/lang/Object;"]
theorem xc_chain {args : Array Value} {s : State} {pl : Platform} (hpl : pl.magicAccessors = ({} : Platform).magicAccessors) {top : MethodId} (htop : s.methodNamed? (Bundle.initS Bundle.tN) = some top)
    {ix : Nat} {rx : ByteArray} (x0 : decode rx 0 = .ok (.aload_n 0, 1)) (x1 : decode rx 1 = .ok (.aload_n 1, 1)) (x2 : decode rx 2 = .ok (.invokespecial ix, 3)) (x5 : decode rx 5 = .ok (.return_, 1)) :
    ∀ (names : List String) (X : String), Bundle.fit X = true → (∀ n ∈ names, Bundle.fit n = true) → (∀ c ∈ xc_chainAtoms X ix rx names, c.before args s = true) →
      ∃ (P1 : PassC) (Ps : List PassC), Ps.length = names.length ∧ P1.LinksS pl s ∧ (∀ P, P ∈ Ps → P.LinksS pl s) ∧ s.methodNamed? (Bundle.initS X) = some P1.m ∧
        P1.sup = firstOf top (Ps.map (·.toPassT)) ∧ PassesOn top (Ps.map (·.toPassT)) := by
  intro names
  cases names with
  | nil =>
    intro X hX _ h
    obtain ⟨P, L, hm, hs⟩ := PassC.ofS_atoms (args := args) (s := s) hpl (X := X) (Y := Bundle.tN) (Bundle.fit_spec hX).1 (by decide) x0 x1 x2 x5 h
    exact ⟨P, [], rfl, L, (fun _ hP => by cases hP), hm, Option.some.inj (hs.symm.trans htop), trivial⟩
  | cons Y r =>
    intro X hX hn h
    obtain ⟨P, L, hm, hs⟩ := PassC.ofS_atoms (args := args) (s := s) hpl (X := X) (Y := Y) (Bundle.fit_spec hX).1 (Bundle.fit_spec (hn Y List.mem_cons_self)).2 x0 x1 x2 x5
      (fun c hc => h c (by simp only [xc_chainAtoms, List.mem_append]; exact Or.inl hc))
    obtain ⟨P', Ps, hlen, L', hL, hm', hsup, hpass⟩ := Bundle.chainS (args := args) hpl htop r Y (hn Y List.mem_cons_self) (fun n hn' => hn n (List.mem_cons_of_mem _ hn')) (fun c hc => h c (by simp only [xc_chainAtoms, List.mem_append]; exact Or.inr hc))
    refine ⟨P, P' :: Ps, by simp [hlen], L, ?_, hm, Option.some.inj (hs.symm.trans hm'), hsup, hpass⟩
    intro Q hQ
    rcases List.mem_cons.mp hQ with rfl | hQ
    · exact L'
    · exact hL Q hQ
variable {p : Program} {l : Launch} {e : Env} {R : Room} {s : State} {m₀ : MethodId} {args : Array Value} {below : List Frame} {meth : Method} {c : Code} {W : State} {locs : List Loc} {cells slots : Nat}
set_option maxHeartbeats 2000000 in
theorem xc_throw (X : Stand p l e R s m₀ args below meth c W locs cells slots) (hexec : p.tables.exec = Jvm.exec) (htr : e.platform.stackTraces = false) {own cls : String} {names : List String} {ic ix : Nat} {rx : ByteArray} (x0 : decode rx 0 = .ok (.aload_n 0, 1)) (x1 : decode rx 1 = .ok (.aload_n 1, 1)) (x2 : decode rx 2 = .ok (.invokespecial ix, 3)) (x5 : decode rx 5 = .ok (.return_, 1))
    (hown : s.vm.findClass own = some m₀.cls) (hcls : Bundle.fit cls = true) (hnames : ∀ n ∈ names, Bundle.fit n = true)
    (h : ∀ a ∈ xc_atoms own ic cls ix rx names, a.before args s = true)
    (hlocs : ∀ x ∈ locs, ∀ cell, s.heap[x.base]? = some cell → cell.vm.isStatics = false)
    {a : Addr} {cX : ClassId} {kX : Class} (hfoundX : s.vm.findClass cls = some cX) (hkX : s.vm.classes[cX]? = some kX) (hcell : W.heap[a]? = some (freshCell cX kX)) (hnew : s.heap.size ≤ a)
    {msg : Value} (hmsg : msg.isRef = true)
    {g : JFrame} (hg : g.method = m₀) (hsize : g.locals.size = c.maxLocals) (hlocked : g.locked = none) (hentered : g.entered = []) {rest : List Value} (hstack : g.stack = msg :: .ref a :: .ref a :: rest)
    (hd6 : decode c.code g.pc = .ok (.invokespecial ic, 3)) (hd9 : decode c.code (g.pc + 3) = .ok (.athrow, 1)) (hout : ∀ x ∈ c.exceptionTable.toList, covers x (g.pc + 3) = false)
    (hRframes : names.length + 3 < R.frames) (hRlocals : 2 * g.monitorRoom + ((Value.ref a :: rest).map fun v => v.category).sum + (13 * (names.length + 1) + 42) ≤ R.locals) (hlocks : meth.locks = false := by first | assumption | exact BodyLoose.notSynchronized (by assumption) | exact Body.notSynchronized (by assumption)) :
    ∃ U : State, Steps p.tables e below (W.setTop g) U ∧ U.status = .running ∧ Ended U below (.threw a) ∧ s.WarmedH U.vm ∧ s.sameButNew ({ U with vm := s.vm } : State) locs cells slots ∧
      ∃ ce, U.heap[a]? = some ce ∧ ce.cls = cX ∧ ce.vm = .none := by
  have howns : e.platform.frameOwnsMonitors = true := by rw [X.admits.platform]
  have hfin : e.platform.finalization = false := by rw [X.admits.platform]
  have hpl : e.platform.magicAccessors = ({} : Platform).magicAccessors := by rw [X.admits.platform]
  have a' : ∀ x, x ∈ xc_atoms own ic cls ix rx names → x.holds args s none s [] = true := fun x hx => h x hx
  obtain ⟨T, Z0, L, -, Y⟩ := ThrowableC.of_atoms (args := args) howns hfin hpl (fun x hx => h x (by simp [xc_atoms, hx]))
  obtain ⟨Z, M, LZ, LM, hnZ⟩ := Init0T.ofS_atoms (args := args) hpl L Y (fun x hx => h x (by simp [xc_atoms, hx]))
  obtain ⟨P1, Ps, hlen, L1, hL, hP1m, hlink1, hlink⟩ := xc_chain (args := args) hpl hnZ x0 x1 x2 x5 names cls hcls hnames (fun x hx => h x (by simp [xc_atoms, hx]))
  have hfound : s.vm.findClass cls = some P1.m.cls := findClass_of_methodNamed hP1m
  cases Option.some.inj (hfoundX.symm.trans hfound)
  obtain ⟨c1, kX', hc1, hk, hord, -, -, hn6⟩ := Cond.instantiable_spec (a' (.instantiable cls 6) (by simp [xc_atoms]))
  cases Option.some.inj (hc1.symm.trans hfound)
  cases Option.some.inj (hkX.symm.trans hk)
  have hsel0 : selectMethod e.platform s.vm P1.m.cls T.fill0 = .method T.fill0 := by
    obtain ⟨c2, r2, m2, q1, q2, q3, q4, -⟩ := Cond.selects_spec (a' (.selects cls Bundle.tFill0 Bundle.tFill0) (by simp [xc_atoms]))
    cases Option.some.inj (q1.symm.trans hfound)
    cases Option.some.inj (q2.symm.trans (State.methodFound?_of_named Y.fill0 (by decide)))
    cases Option.some.inj (q3.symm.trans Y.fill0)
    rw [Launch.admits_selectMethod X.admits]; exact q4
  have hselF : selectMethod e.platform s.vm P1.m.cls T.fill = .method T.fill := by
    obtain ⟨c2, r2, m2, q1, q2, q3, q4, -⟩ := Cond.selects_spec (a' (.selects cls Bundle.tFill Bundle.tFill) (by simp [xc_atoms]))
    cases Option.some.inj (q1.symm.trans hfound)
    cases Option.some.inj (q2.symm.trans (State.methodFound?_of_named Y.fill (by decide)))
    cases Option.some.inj (q3.symm.trans Y.fill)
    rw [Launch.admits_selectMethod X.admits]; exact q4
  obtain ⟨cellS0, hcS0, hiss⟩ := Y.statics
  obtain ⟨u0, hu0⟩ := Cond.staticRefV Y.unassigned L.unassignedStatic L.statics hcS0 hiss (a' (.isRef (.static Bundle.tN "UNASSIGNED_STACK" Bundle.steD)) (by simp [xc_atoms]))
  obtain ⟨sen, hsen⟩ := Cond.staticRefV Y.sentinel L.sentinelStatic L.statics hcS0 hiss (a' (.isRef (.static Bundle.tN "SUPPRESSED_SENTINEL" Bundle.listD)) (by simp [xc_atoms]))
  obtain ⟨ci198, i198, fB, hk198, hg198, ha198, hsB, -, hnB, htB, hffB⟩ := Cond.ownField (t := .object "java/lang/Object") Y.found L.cls (by decide +kernel) (a' (.fieldLink Bundle.tN 198 Bundle.tN "backtrace" "Ljava/lang/Object;") (by simp [xc_atoms])) (a' (.lays Bundle.tN Bundle.tN "backtrace" "Ljava/lang/Object;") (by simp [xc_atoms])) e.platform hpl
  obtain ⟨cellS, hcS', heS, -, hkeep⟩ := X.same.2.2.2.2.2 T.aS cellS0 hcS0
  have hcellS : W.heap[T.aS]? = some cellS := hcS'
  have hout' : ∀ i, (⟨T.aS, i⟩ : Loc) ∉ locs := fun i hmem => by
    have := hlocs _ hmem cellS0 hcS0
    rw [hiss] at this; cases this
  have hknownS : cellS.vm ≠ .unknown := by
    rw [heS]; intro hu
    rw [show cellS0.vm = .unknown from hu] at hiss
    cases hiss
  have hneS : T.aS ≠ a := Nat.ne_of_lt (Nat.lt_of_lt_of_le (Array.getElem?_eq_some_iff.mp hcS0).1 hnew)
  obtain ⟨iM, hffM⟩ := Y.msg
  obtain ⟨tyC, dC, hdC, hdnC⟩ := Cond.laysAt hfound hk Y.cause (a' (.lays cls Bundle.tN "cause" "Ljava/lang/Throwable;") (by simp [xc_atoms]))
  obtain ⟨tyS, dS, hdS, hdnS⟩ := Cond.laysAt hfound hk Y.stack (a' (.lays cls Bundle.tN "stackTrace" Bundle.steD) (by simp [xc_atoms]))
  obtain ⟨tyP, dP, hdP, hdnP⟩ := Cond.laysAt hfound hk Y.supp (a' (.lays cls Bundle.tN "suppressedExceptions" Bundle.listD) (by simp [xc_atoms]))
  obtain ⟨tyM, dM, hdM, hdnM⟩ := Cond.laysAt hfound hk hffM (a' (.lays cls Bundle.tN "detailMessage" "Ljava/lang/String;") (by simp [xc_atoms]))
  obtain ⟨tyB, dB, hdB, hdnB⟩ := Cond.laysAt hfound hk hffB (a' (.lays cls Bundle.tN "backtrace" "Ljava/lang/Object;") (by simp [xc_atoms]))
  have bC := Cond.laysApart hdB hdC hdnB hdnC (by rw [hnB, Y.causeName]; decide)
  have bS := Cond.laysApart hdB hdS hdnB hdnS (by rw [hnB, Y.stackName]; decide)
  have bP := Cond.laysApart hdB hdP hdnB hdnP (by rw [hnB, Y.suppName]; decide)
  have hskip : SkipFacts T e.platform s (fun u => u) u0 ((preparedCellV T.toThrowableT (freshCell P1.m.cls kX) a u0 sen).withEntry W.cur) :=
    ⟨{ ci198 := ci198, i198 := i198, fBack := fB }, ⟨hk198, hg198, ha198, hsB⟩, by
      have := fresh_default (c := P1.m.cls) tyB
      rw [htB] at this
      simpa [preparedCellV, Cell.setSlot, Cell.withEntry, Array.getElem?_setIfInBounds, bC, bS, bP, bC.symm, bS.symm, bP.symm, defaultValue] using this, fun _ _ => rfl⟩
  obtain ⟨tm, methC, cdC, kC, vm₁, hnC, -, -, -, -, -, -, -, hW₁, st1⟩ := Steps.initColdS (tb := p.tables) (e := e) (below := below) (s := s) (U := W) X.here hexec X.warmed hpl hown (t := Bundle.initS cls) rfl rfl (Bundle.fit_spec hcls).2
    (a' (.methodLink own ic (Bundle.initS cls)) (by simp [xc_atoms])) (h (.instanceMethod (Bundle.initS cls)) (by cases names <;> simp [xc_atoms, xc_chainAtoms, Bundle.passSAtoms])) (bytes := rx) (maxL := 2) (h (.code (Bundle.initS cls) rx 2 none) (by cases names <;> simp [xc_atoms, xc_chainAtoms, Bundle.passSAtoms]))
    (f := g) hg (a := a) (msg := msg) (rest := .ref a :: rest) hstack hd6
  cases Option.some.inj (hnC.symm.trans hP1m)
  have X₁ := X.noted hW₁
  obtain ⟨vm₂, X₂, st2⟩ := X₁.ctorMessageOffV hexec (g := { g with stack := .ref a :: rest }) hg hsize T L Z LZ M LM (P1 :: Ps)
    (fun P hP => by rcases List.mem_cons.mp hP with rfl | hP; exact L1; exact hL P hP) ⟨hlink1, hlink⟩ (u0 := u0) (sen := sen) (self := a) hmsg (cell := freshCell P1.m.cls kX) (cellS := cellS)
    hcell (fun _ => by simp) (by simp) rfl rfl hsel0 hselF hcellS hneS hknownS (by rw [hkeep _ (hout' _)]; exact hu0) (by rw [hkeep _ (hout' _)]; exact hsen)
    (Takes.of_laid hk hord tyC (by rw [Y.causeType]; rfl)) (Takes.of_laid hk hord tyS (by rw [Y.stackType]; exact fits_refV_array _ u0)) (Takes.of_laid hk hord tyP (by rw [Y.suppType]; exact fits_refV_object _ sen))
    (Takes.of_laid hk hord tyM (by rw [Y.msgType]; exact fits_refV_object _ ⟨msg, hmsg⟩)) Y.objLocals hskip htr [] hd6
    (by simp only [List.length_cons, hlen]; omega) (by simp only [List.length_cons, hlen]; exact hRlocals)
  obtain ⟨hwalk, hrun, hended, hWU, hsame⟩ := X₂.athrowLeaves hexec (g := { g with stack := .ref a :: rest, pc := g.pc + 3 }) hg hlocked hentered hout (a := a) (rest := rest) rfl hd9
  obtain ⟨c3, c4, hc3, hc4, hasg⟩ := Cond.castable_spec (a' (.castable cls cls) (by simp [xc_atoms]))
  cases Option.some.inj (hc3.symm.trans hfound)
  cases Option.some.inj (hc4.symm.trans hfound)
  have hlt : a < ((W.setVm vm₁).setVm vm₂).heap.size := (Array.getElem?_eq_some_iff.mp hcell).1
  have hU := heapAt_setCell_self (s := (W.setVm vm₁).setVm vm₂) (plainBareV T.toThrowableT (freshCell P1.m.cls kX) a u0 sen msg) hlt
  refine ⟨_, st1 _ (fun acts => ?_), hrun, hended, hWU, hsame.weaken (fun y hy hlt' => ?_) (Nat.le_refl _) (Nat.le_refl _), _, hU, rfl, rfl⟩
  · rw [doInvoke_state]
    exact st2 _ hwalk
  · rcases List.mem_append.mp hy with h1 | h1
    · exact h1
    · exfalso
      have hb : y.base = a := by
        simp only [List.mem_cons, List.not_mem_nil, or_false] at h1
        rcases h1 with rfl | rfl | rfl | rfl | rfl <;> rfl
      rw [hb] at hlt'
      exact Nat.not_lt.mpr hnew hlt'
def xc_at (own : String) (ic : Nat) (X : String) (ix : Nat) (rx : ByteArray) (names : List String) : List Cond := (xc_atoms own ic X ix rx names).filter vx_no
end XC
section XC2
variable {p : Program} {l : Launch} {e : Env} {R : Room} {s : State} {m : MethodId} {args : Array Value} {below : List Frame} {meth : Method} {c : Code} {H : Heap} {locs : List Loc} {cells slots : Nat} {Q : State → Prop}
variable {mc ms : Nat} {free : Addr → Prop} {A0 A1 : Nat → Prop} {H0 : Heap} {a : Array Value} {ls : Array Slot} {st0 rest : List Value}
variable {Qc : Array Value → State → Outcome → State → Prop} {XC : String → State → State → Prop}
theorem xc_throwSW {cc : ByteArray} {pc : Nat} (hexec : p.tables.exec = Jvm.exec) (hb : c.code = cc) (hl : l.stackTraces = false) {own cls text : String} {names : List String} {ik is ic mc ms sa ix : Nat} {rx : ByteArray} (x0 : decode rx 0 = .ok (.aload_n 0, 1)) (x1 : decode rx 1 = .ok (.aload_n 1, 1)) (x2 : decode rx 2 = .ok (.invokespecial ix, 3)) (x5 : decode rx 5 = .ok (.return_, 1)) {A : Nat → Prop}
    (hown : s.vm.findClass own = some m.cls) (hcls : Bundle.fit cls = true) (hnames : ∀ n ∈ names, Bundle.fit n = true)
    (hk : (Cond.classLink own ik cls).before args s = true) (hini : (Cond.initialized cls).before args s = true) (hstr : vk_R own is text sa s) (hat : ∀ w ∈ xc_at own ic cls ix rx names, w.before args s = true)
    (hgood : ∀ w ∈ Cond.classLink own ik cls :: Cond.initialized cls :: xc_at own ic cls ix rx names, vx_ot w = true)
    (hU : vx_Zq Bundle.tN "UNASSIGNED_STACK" Bundle.steD A s s.heap) (hN : vx_Zq Bundle.tN "SUPPRESSED_SENTINEL" Bundle.listD A s s.heap) (hS : va_S A s.heap H locs) (hsize : ls.size = c.maxLocals)
    (d0 : decode cc pc = .ok (.new ik, 3)) (d3 : decode cc (pc + 3) = .ok (.dup, 1)) (d4 : decode cc (pc + 4) = .ok (.ldc_w is, 3)) (d7 : decode cc (pc + 7) = .ok (.invokespecial ic, 3)) (d10 : decode cc (pc + 10) = .ok (.athrow, 1))
    (hout : ∀ x ∈ c.exceptionTable.toList, covers x (pc + 10) = false)
    (hRframes : names.length + 3 < R.frames) (hRlocals : (rest.map fun v => v.category).sum + (13 * (names.length + 1) + 43) ≤ R.locals) (hRcells : cells + 1 ≤ R.cells) (hRslots : slots + 6 ≤ R.slots) (hlocks : meth.locks = false)
    (hx : ∀ t : State, s.vm.Alike t.vm → H.size ≤ t.heap.size → (∀ q : Nat, q < H.size → t.heap[q]? = H[q]?) → XC cls s t)
    (hf : ∀ z ∈ locs, free z.base) (hc : cells + 1 ≤ mc) (hs : slots + 6 ≤ ms) :
    W p l e R s m args below meth c H locs cells slots (vx_MQ below Qc XC args s mc ms free) (F0 m pc ls rest) := by
  intro T hT X
  have htr : e.platform.stackTraces = false := (show e.platform.stackTraces = l.stackTraces by rw [X.admits.platform]).trans hl
  have Y := vx_rebase X (R' := { frames := R.frames, locals := R.locals, cells := 1, slots := 6 }) (Nat.le_refl _) (Nat.le_refl _) hRcells hRslots
  obtain ⟨s', hA⟩ : ∃ z, z = (T.setVm s.vm).setFrames (.invoking m args :: below) := ⟨_, rfl⟩
  rw [← hA] at Y
  have hvm : s'.vm = s.vm := by rw [hA]; rfl
  have hhp : s'.heap = H := by rw [hA]; exact hT
  have hW0 : s.WarmedH s'.vm := by rw [hvm]; exact State.WarmedH.refl s
  have hat' : ∀ w ∈ xc_at own ic cls ix rx names, w.before args s' = true := fun w hw => vx_ot_at hW0 hvm.symm (hgood w (List.mem_cons_of_mem _ (List.mem_cons_of_mem _ hw))) (hat w hw)
  have hk' : (Cond.classLink own ik cls).before args s' = true := vx_ot_at hW0 hvm.symm (hgood _ List.mem_cons_self) hk
  have hini' : (Cond.initialized cls).before args s' = true := vx_ot_at hW0 hvm.symm (hgood _ (List.mem_cons_of_mem _ List.mem_cons_self)) hini
  have hU' : vx_Zq Bundle.tN "UNASSIGNED_STACK" Bundle.steD A s' s'.heap := by rw [hhp]; exact vx_Zq.moved hW0.alike (hU.kept hS.2.1)
  have hN' : vx_Zq Bundle.tN "SUPPRESSED_SENTINEL" Bundle.listD A s' s'.heap := by rw [hhp]; exact vx_Zq.moved hW0.alike (hN.kept hS.2.1)
  have h : ∀ w ∈ xc_atoms own ic cls ix rx names, w.before args s' = true := vx_own hat' (vx_isRefq hU'.1) (vx_isRefq hN'.1) hU'.2.word hN'.2.word
  have hown' : s'.vm.findClass own = some m.cls := by rw [hvm]; exact hown
  have hins : (Cond.instantiable cls 6).before args s' = true := h _ (by simp [xc_atoms])
  obtain ⟨vm₁, cX, kX, hfX, hkX, -, -, X₁, st1⟩ := Y.newCold hexec (own := own) (C := cls) (index := ik) (n := 6) hown' hk' hins hini'
    (g := F0 m pc ls rest) rfl (by rw [hb]; exact d0) (Nat.le_refl _) (Nat.le_refl _)
  generalize hT1 : (T.setVm vm₁).pushCell { cls := cX, slots := kX.instanceTypes.map defaultValue, vm := .none } = T1 at X₁ st1
  have hcat : (Value.ref T.heap.size).category = 1 := rfl
  have hcellA : T1.heap[T.heap.size]? = some (freshCell cX kX) := by rw [← hT1]; exact State.heap_pushCell_size _ _
  have d3' : decode c.code (pc + 3) = .ok (.dup, 1) := by rw [hb]; exact d3
  have d4' : decode c.code (pc + 4) = .ok (.ldc_w is, 3) := by rw [hb]; exact d4
  have hstr' : vk_R own is text sa s' := vk_R.warm hW0 hstr
  obtain ⟨U, hsteps, hrun, hend, hW, hsame, ce, hce, hO⟩ := xc_throw X₁ hexec htr x0 x1 x2 x5 (own := own) (cls := cls) (names := names) (ic := ic) hown' hcls hnames h (fun x hx => nomatch hx) hfX hkX hcellA (by rw [hhp, hT]; exact Nat.le_refl _) (msg := .ref sa) rfl
    (g := { method := m, pc := pc + 7, locals := ls, stack := .ref sa :: .ref T.heap.size :: .ref T.heap.size :: rest, locked := none }) rfl hsize rfl rfl (rest := rest) rfl
    (by rw [hb]; exact d7) (by rw [hb]; exact d10) hout hRframes (by simp only [List.map_cons, List.sum_cons, hcat]; omega) hlocks
  obtain ⟨f1, f2⟩ := vx_frame hsame
  rw [hhp] at f1 f2
  have hWs : s.WarmedH U.vm := State.WarmedH.trans hW0 hW
  have hcl : s.vm.findClass cls = some ce.cls := by
    rw [hO.1, ← hvm]
    exact hfX
  have hall : s.sameButNew ({ U with vm := s.vm } : State) locs mc ms := by
    subst hA
    obtain ⟨e1, e2⟩ := hsame
    rw [State.setFrames_setFrames] at e1
    have h2 : (T.setVm s.vm).sameButNew ({ U with vm := s.vm } : State) [] (0 + 1) (0 + 6) := ⟨e1, e2⟩
    have h3 := X.same.trans h2
    rw [List.append_nil] at h3
    exact h3.mono hc hs
  refine ⟨U, ?_, .threw T.heap.size, hrun, hend, Or.inr ⟨T.heap.size, rfl, cls, ce, locs, hx U hWs.alike f1 (fun q hq => f2 q hq (fun z hz => nomatch hz)), hce, hO.2, hcl, hWs, hall, hf⟩⟩
  refine st1 _ ?_
  show Steps p.tables e below (T1.setTop { method := m, pc := pc + 3, locals := ls, stack := .ref T.heap.size :: rest, locked := none }) _
  jvm_step X₁.here [X₁.here.top, hexec, d3', Value.category]
  exact X₁.ldcStringW hexec (own := own) (text := text) (index := is) (a := sa) hown' hstr'.1 hstr'.2
    (g := { method := m, pc := pc + 4, locals := ls, stack := .ref T.heap.size :: .ref T.heap.size :: rest, locked := none }) rfl d4' _ hsteps
end XC2
/-! ===== LineChoice.row, the law's row ===== -/
abbrev nse : String := "java/util/NoSuchElementException"
abbrev nseL : List String := ["java/lang/RuntimeException", "java/lang/Exception"]
abbrev nseB : ByteArray := prog_17_method_4_code
abbrev rowTx : String := "the row has no such number"
def xnL : List Cond := [.declares (Bundle.initS "java/lang/RuntimeException"), .declares (Bundle.initS "java/lang/Exception"), .declares (Bundle.initS "java/lang/Throwable"), .castable nse nse]
/-- what a throw of row needs of the start besides -/
def XN (B sa : Nat) (U : State) : Prop := (∀ w ∈ xnL, va_Nw w U) ∧ vk_R RX6 343 rowTx sa U ∧ vx_Zq Bundle.tN "UNASSIGNED_STACK" Bundle.steD (fun a => B ≤ a) U U.heap ∧ vx_Zq Bundle.tN "SUPPRESSED_SENTINEL" Bundle.listD (fun a => B ≤ a) U U.heap
theorem xnL_warm {s U : State} (hW : s.WarmedH U.vm) (h : ∀ w ∈ xnL, va_Nw w s) : ∀ w ∈ xnL, va_Nw w U := by
  intro w hw
  have h1 := h w hw
  simp only [xnL, List.mem_cons, List.not_mem_nil, or_false] at hw
  rcases hw with rfl | rfl | rfl | rfl
  · exact va_Nw.warmD hW h1
  · exact va_Nw.warmD hW h1
  · exact va_Nw.warmD hW h1
  · exact va_Nw.warmC hW h1
theorem xnL_tab : ∀ w ∈ xnL, w.onTables = true := by decide +kernel
/-- the same at a later state of the machine, nothing outside the world written -/
theorem XN.at {B sa : Nat} {s U : State} {H : Heap} {locs : List Loc} (hW : s.WarmedH U.vm) (hU : U.heap = H) (hS : va_S (fun a => B ≤ a) s.heap H locs) (h : XN B sa s) : XN B sa U :=
  ⟨xnL_warm hW h.1, vk_R.warm hW h.2.1, by rw [hU]; exact vx_Zq.moved hW.alike (h.2.2.1.kept hS.2.1), by rw [hU]; exact vx_Zq.moved hW.alike (h.2.2.2.kept hS.2.1)⟩
def PcX (D : va_G) (ca : Nat → ClassId) (B sa : Nat) (σ : Mem) (As : List Value) : Array Value → State → Prop := va_Pc As (fun U => FW D ca B σ U.heap ∧ va_K D vwCl (tyL ca) U ∧ Nst U ∧ XN B sa U)
theorem pcX_blind {D : va_G} {ca : Nat → ClassId} {B sa : Nat} {σ : Mem} {As : List Value} : FrameBlind (PcX D ca B sa σ As) := by
  intro a U g mk h
  obtain ⟨h1, h2, h3, h4, h5⟩ := h
  exact ⟨h1, h2, va_K.moved (u := U) (U := U.calling g mk a) (Vm.Alike.refl U.vm) h3, fun w hw => va_Nw.same (u := U) (U := U.calling g mk a) (by simp only [nestL, List.mem_cons, List.not_mem_nil, or_false] at hw; rcases hw with rfl | rfl | rfl | rfl <;> rfl) rfl (h4 w hw), fun w hw => va_Nw.same (u := U) (U := U.calling g mk a) (xnL_tab w hw) rfl (h5.1 w hw), vk_R.same (u := U) (U := U.calling g mk a) rfl h5.2.1, vx_Zq.moved (u := U) (U := U.calling g mk a) (Vm.Alike.refl U.vm) h5.2.2.1, vx_Zq.moved (u := U) (U := U.calling g mk a) (Vm.Alike.refl U.vm) h5.2.2.2⟩
set_option maxRecDepth 100000 in
theorem xat_good : ∀ w ∈ (xc_at RX6 345 nse 13 nseB nseL).filter goodWord, w ∈ TB := by
  intro w hw
  have h1 := (List.mem_filter.mp hw).2
  exact List.mem_filter.mpr ⟨(goodIn_p (big := lw_tbl) ((xc_at RX6 345 nse 13 nseB nseL).filter goodWord) [1009, 92, 1036, 1027, 1030, 1033] rfl (by decide +kernel) w hw).1, h1⟩
theorem xat_rest : ∀ w ∈ (xc_at RX6 345 nse 13 nseB nseL).filter (fun w => !goodWord w), w ∈ xnL := by decide +kernel
theorem xat_ot : ∀ w ∈ Cond.classLink RX6 341 nse :: Cond.initialized nse :: xc_at RX6 345 nse 13 nseB nseL, vx_ot w = true := by decide +kernel
theorem xcl_341 : Cond.classLink RX6 341 nse ∈ TB := tbm (i := 985) (by decide +kernel) (by decide +kernel)
theorem xcl_13 : Cond.classLink RL 13 nse ∈ TB := tbm (i := 980) (by decide +kernel) (by decide +kernel)
theorem lk_L_7 : Cond.methodLink RL 7 yX6_row ∈ TB := tbm (i := 981) (by decide +kernel) (by decide +kernel)
theorem meX6_row : MeV yX6_row cX6_row 2 (some .long) 1 := ⟨⟨tbm (i := 984) (by decide +kernel) (by decide +kernel), tbm (i := 71) (by decide +kernel) (by decide +kernel), by decide +kernel, by decide +kernel, by decide +kernel⟩, tbm (i := 982) (by decide +kernel) (by decide +kernel), tbm (i := 983) (by decide +kernel) (by decide +kernel)⟩
theorem xini : Cond.initialized nse ∈ TB := tbm (i := 84) (by decide +kernel) (by decide +kernel)
/-- it throws -/
abbrev XCt (D : va_G) (ca : Nat → ClassId) (B : Nat) (σ : Mem) : String → State → State → Prop := vx_X (fun u : Mem => u = σ) (fun E u t => E = nse ∧ FW D ca B u t.heap) (fun a => B ≤ a)
abbrev Qno (D : va_G) (ca : Nat → ClassId) (B : Nat) : Array Value → State → Outcome → State → Prop := va_Ql (fun (_ : Int64) (_ : Mem) => False) (fun u t => FW D ca B u t.heap) (fun a => B ≤ a)
abbrev rmRT : Room := { frames := 6, cells := 1, slots := 6, locals := 100 }
set_option maxHeartbeats 4000000 in
set_option maxRecDepth 100000 in
theorem row_thr (l : Launch) (hl : l.stackTraces = false) (D : va_G) (ca : Nat → ClassId) (B sa : Nat) (σ : Mem) (i : Int) (h : ¬ (0 ≤ w32 i ∧ w32 i < w32 (σ 323 1))) :
    vx_Met l yX6_row (WS yX6_row cX6_row 2 (some .long)) rmRT (PcX D ca B sa σ [rv B 0, iv i]) (Qno D ca B) (XCt D ca B σ) 1 6 (fun a => B ≤ a) := by
  refine vx_ofW (cc := cX6_row) (maxL := 2) (ret := some .long) (by decide +kernel) rfl ?_
  intro p e s m args below meth c s₁ BL hml hex hv
  obtain ⟨rfl, hF, hK, hN, hX⟩ := hv
  have hts := atoms_spec (ws := WS yX6_row cX6_row 2 (some .long)) BL.pre
  have hown : s.vm.findClass RX6 = some m.cls := findClass_of_methodNamed BL.named
  have hl0 := lv_entry [rv B 0, iv i] (n := 2) (Nat.le_of_ble_eq_true rfl)
  rw [lg_entry_eq]
  have hlv : lv_args 0 [rv B 0, iv i] = [(0, rv B 0), (1, iv i)] := rfl
  rw [hlv] at hl0
  have htb : ∀ w ∈ TB, w.before ([rv B 0, iv i] : List Value).toArray s = true := fun w hw => hts w (List.mem_cons_of_mem _ hw)
  have key : Sim cX6_row RX6 2 rmRT B (p, l, e, s, m, ([rv B 0, iv i] : List Value).toArray, below, meth, c, D, ca, 0, 0, fun _ _ => vx_MQ below (Qno D ca B) (XCt D ca B σ) ([rv B 0, iv i] : List Value).toArray s 1 6 (fun a => B ≤ a)) (if w32 i < 0 then some (0, σ) else if w32 i < w32 (σ 323 1) then none else some (0, σ)) σ 0 [(0, rv B 0), (1, iv i)] [] := by
    have thr : Sim cX6_row RX6 2 rmRT B (p, l, e, s, m, ([rv B 0, iv i] : List Value).toArray, below, meth, c, D, ca, 0, 0, fun _ _ => vx_MQ below (Qno D ca B) (XCt D ca B σ) ([rv B 0, iv i] : List Value).toArray s 1 6 (fun a => B ≤ a)) (some (0, σ)) σ 15 [(0, rv B 0), (1, iv i)] [] := by
      intro r σ' hq ok H locs ls hF hS hl1
      cases hq
      exact xc_throwSW (rx := nseB) (ix := 13) (own := RX6) (cls := nse) (text := rowTx) (names := nseL) (sa := sa) (A := fun a => B ≤ a) (x0 := by decide +kernel) (x1 := by decide +kernel) (x2 := by decide +kernel) (x5 := by decide +kernel) ok.1 ok.2.1 hl hown (by decide +kernel) (by decide +kernel) (htb _ xcl_341) (htb _ xini) hX.2.1
        (vx_hat (fun w hw => htb w (xat_good w hw)) xat_rest (fun w hw => va_Nw.use (xnL_tab w hw) (hX.1 w hw))) xat_ot hX.2.2.1 hX.2.2.2 hS (hl1.1.trans hml.symm)
        dX6_row_15 dX6_row_18 dX6_row_19 dX6_row_22 dX6_row_25 (fun x hx => (hex x hx).elim) (by decide) (by decide) (by decide) (by decide) BL.notSynchronized
        (fun t hvm hz ho => ⟨σ, rfl, ⟨rfl, hF.1.kept (fun k x hx => ho x.1 ((hF.1 k x hx).lt)), hF.2⟩, Nat.le_trans hS.1 hz, fun q h1 h2 => (ho q (Nat.lt_of_lt_of_le h1 hS.1)).trans (hS.2.1 q h1 h2)⟩) hS.2.2 (by decide) (by decide)
    refine s_iload_n 1 dX6_row_0 rfl rfl ?_
    refine s_if_lt (tgt := 15) dX6_row_1 (by decide) thr ?_
    refine s_iload_n 1 dX6_row_4 rfl rfl ?_
    refine s_aload_n 0 dX6_row_5 rfl rfl ?_
    refine s_getr (n := 322) (k' := 323) dX6_row_6 ly6 fl_X6_26 kd_0 rfl rfl rfl ?_
    refine s_geti dX6_row_9 ly3 fl_X6_335 kd_323 rfl ?_
    exact s_icmp_lt (tgt := 26) dX6_row_12 (by decide) s_none thr
  have hp : (if w32 i < 0 then some ((0 : Int), σ) else if w32 i < w32 (σ 323 1) then none else some (0, σ)) = some (0, σ) := by
    by_cases h1 : w32 i < 0
    · rw [if_pos h1]
    · rw [if_neg h1, if_neg (fun h2 => h ⟨by omega, h2⟩)]
  exact key 0 σ hp ⟨BL.exec, BL.bytes, hml, hown, htb, hK, hN, Nat.zero_le _, Nat.zero_le _⟩ s.heap [] _ hF va_S.rf hl0
/-- the law's row: 0 and the number in its cell, or 1 -/
def fL_row (fu : Nat) (i : Int) (σ : Mem) : PR := if 0 ≤ w32 i ∧ w32 i < w32 (σ 323 1) then bnd (fX6_row fu i σ) (fun v s1 => wrI s1 361 1 0 v (fun s2 => some (0, s2))) else some (1, σ)
abbrev rmLR : Room := { frames := 7, cells := 1, slots := 6, locals := 140 }
def wsLR : List Cond := .codeWith yL_row cL_row 4 (some .int) [(0, 8, 11, 13)] :: TB
abbrev XCn (D : va_G) (ca : Nat → ClassId) (B : Nat) : String → State → State → Prop := vx_X (fun _ : Mem => False) (fun _ u t => FW D ca B u t.heap) (fun a => B ≤ a)
set_option maxHeartbeats 4000000 in
set_option maxRecDepth 100000 in
theorem ctL_row (l : Launch) (hl : l.stackTraces = false) (D : va_G) (ca : Nat → ClassId) (B fu sa : Nat) (σ : Mem) (i r : Int) (σ' : Mem) (hq : fL_row fu i σ = some (r, σ')) :
    vx_Met l yL_row wsLR rmLR (PcX D ca B sa σ [rv B 0, iv i, rv B 361]) (QcI D ca B r σ') (XCn D ca B) 1 6 (fun a => B ≤ a) := by
  refine vx_ofWH (cc := cL_row) (maxL := 4) (ret := some .int) (hh := [(0, 8, 11, 13)]) (by decide +kernel) rfl ?_
  intro p e s m args below meth c s₁ BL hml hv
  obtain ⟨rfl, hF, hK, hN, hX⟩ := hv
  have hts := atoms_spec (ws := wsLR) BL.pre
  have hown : s.vm.findClass RL = some m.cls := findClass_of_methodNamed BL.named
  have hl0 := lv_entry [rv B 0, iv i, rv B 361] (n := 4) (Nat.le_of_ble_eq_true rfl)
  rw [lg_entry_eq]
  have hlv : lv_args 0 [rv B 0, iv i, rv B 361] = [(0, rv B 0), (1, iv i), (2, rv B 361)] := rfl
  rw [hlv] at hl0
  have htb : ∀ w ∈ TB, w.before ([rv B 0, iv i, rv B 361] : List Value).toArray s = true := fun w hw => hts w (List.mem_cons_of_mem _ hw)
  have htab : c.exceptionTable.toList = tableOf [(0, 8, 11, 13)] := vx_table (x := yL_row) BL (hts _ List.mem_cons_self)
  have hlocks := BL.notSynchronized
  have hret := BL.returns
  have okx : Okx cL_row RL 4 p s m ([rv B 0, iv i, rv B 361] : List Value).toArray c D ca rmLR 0 0 := ⟨BL.exec, BL.bytes, hml, hown, htb, hK, hN, Nat.zero_le _, Nat.zero_le _⟩
  have ret : ∀ (cs sl pc : Nat) (v : Int) (τ : Mem) (lv : List (Nat × Value)), cs ≤ 1 → sl ≤ 6 → decode cL_row pc = .ok (.ireturn, 1) → Sim cL_row RL 4 rmLR B (p, l, e, s, m, ([rv B 0, iv i, rv B 361] : List Value).toArray, below, meth, c, D, ca, cs, sl, fun r σ' => vx_MQ below (QcI D ca B r σ') (XCn D ca B) ([rv B 0, iv i, rv B 361] : List Value).toArray s 1 6 (fun a => B ≤ a)) (some (v, τ)) τ pc lv [iv v] := by
    intro cs sl pc v τ lv h1 h2 hd r9 σ9 hq9 ok H locs ls hF hS hl1
    cases hq9
    exact W.widen h1 h2 (vx_ret (W.iret (v := Int32.ofInt v) ok.1 ok.2.1 hret (fun t ht hW => ⟨⟨_, τ, rfl, ⟨rfl, rfl⟩, by show FW D ca B τ t.heap; rw [ht]; exact hF⟩, hS.F ht⟩) hS.2.2 hd hlocks))
  by_cases h : 0 ≤ w32 i ∧ w32 i < w32 (σ 323 1)
  · have key : Sim cL_row RL 4 rmLR B (p, l, e, s, m, ([rv B 0, iv i, rv B 361] : List Value).toArray, below, meth, c, D, ca, 0, 0, fun r σ' => vx_MQ below (QcI D ca B r σ') (XCn D ca B) ([rv B 0, iv i, rv B 361] : List Value).toArray s 1 6 (fun a => B ≤ a)) (bnd (fX6_row fu i σ) (fun v s1 => wrI s1 361 1 0 v (fun s2 => some (0, s2)))) σ 0 [(0, rv B 0), (1, iv i), (2, rv B 361)] [] := by
      refine s_aload_n 2 dL_row_0 rfl rfl ?_
      refine s_iconst dL_row_1 ?_
      refine s_aload_n 0 dL_row_2 rfl rfl ?_
      refine s_iload_n 1 dL_row_3 rfl rfl ?_
      refine s_Vl (rest := [iv 0, rv B 361]) dL_row_4 lk_L_7 meX6_row (ctX6_row B fu i σ) kd_0 ⟨rfl, by decide⟩ rfl rfl ⟨rfl, rfl, by decide, by decide⟩ (Nat.le_of_ble_eq_true rfl) (fun v s1 => ?_)
      refine s_last 1 dL_row_7 kd_361 (by decide) (fun s2 => ?_)
      refine s_goto (tgt := 14) dL_row_8 (by decide) ?_
      refine s_iconst dL_row_14 ?_
      exact ret 0 0 15 0 s2 _ (by decide) (by decide) dL_row_15
    unfold fL_row at hq
    rw [if_pos h] at hq
    exact key r σ' hq okx s.heap [] _ hF va_S.rf hl0
  · unfold fL_row at hq
    rw [if_neg h] at hq
    have key : Sim cL_row RL 4 rmLR B (p, l, e, s, m, ([rv B 0, iv i, rv B 361] : List Value).toArray, below, meth, c, D, ca, 0, 0, fun r σ' => vx_MQ below (QcI D ca B r σ') (XCn D ca B) ([rv B 0, iv i, rv B 361] : List Value).toArray s 1 6 (fun a => B ≤ a)) (some (1, σ)) σ 0 [(0, rv B 0), (1, iv i), (2, rv B 361)] [] := by
      refine s_aload_n 2 dL_row_0 rfl rfl ?_
      refine s_iconst dL_row_1 ?_
      refine s_aload_n 0 dL_row_2 rfl rfl ?_
      refine s_iload_n 1 dL_row_3 rfl rfl ?_
      intro r9 σ9 hq9 ok H locs ls hF hS hl1
      have hXh : XN B sa s := hX
      refine vx_calll (S := Mem) (SX := Mem) (vx_runV (As := [iv i]) (rest := [iv 0, rv B 361]) ⟨ok.1, ok.2.1, ok.2.2.1, ok.2.2.2.1, ok.2.2.2.2.1⟩ (row_thr l hl D ca B sa σ i h)
        ⟨callB_of 1 ok.2.2.2.2.1 (good_WS meX6_row.1.1) rfl rfl rfl (ok.2.2.2.2.1 _ meX6_row.1.2.1) (ok.2.2.2.2.1 _ lk_L_7) meX6_row.1.2.2 ⟨by decide, by decide⟩, ok.2.2.2.2.1 _ meX6_row.2.1, ok.2.2.2.2.1 _ meX6_row.2.2⟩
        ⟨pcX_blind, rc_of ok hF kd_0 (by decide) rfl, fun U hU hW => ⟨rfl, by rw [hU]; exact hF, va_K.moved hW.alike ok.2.2.2.2.2.1, Nst.warm hW ok.2.2.2.2.2.2.1, XN.at hW hU hS hXh⟩⟩ rfl rfl hl1.1 rfl (lv_room (Nat.le_of_ble_eq_true rfl)) dL_row_4 ⟨by decide, by decide⟩) hS (fun _ _ h => h) (fun _ h => h) (fun _ _ h => h) ?_ ?_
      · intro E ce q9 u t H1 locs1 ht hvm hp hB hz hk hS1 hce hcv hcl
        obtain ⟨rfl, hF1⟩ := hB
        subst hp
        refine vx_catch (own := RL) (name := nse) (E := nse) ok.2.2.2.1 [] ⟨0, 8, 11, 13⟩ [] htab (fun z hz => nomatch hz) (by decide) (by decide) (htb _ xcl_13) (va_Nw.use (xnL_tab _ (by simp [xnL])) (hX.1 (.castable nse nse) (by simp [xnL]))) hce hcv hcl ?_
        have k2 : Sim cL_row RL 4 rmLR B (p, l, e, s, m, ([rv B 0, iv i, rv B 361] : List Value).toArray, below, meth, c, D, ca, 1, 6, fun r σ' => vx_MQ below (QcI D ca B r σ') (XCn D ca B) ([rv B 0, iv i, rv B 361] : List Value).toArray s 1 6 (fun a => B ≤ a)) (some (1, u)) u 11 [(0, rv B 0), (1, iv i), (2, rv B 361)] [.ref q9] := by
          refine s_astore_n (lv' := [(3, .ref q9), (0, rv B 0), (1, iv i), (2, rv B 361)]) dL_row_11 rfl (by decide) rfl ?_
          refine s_iconst dL_row_12 ?_
          exact ret 1 6 13 1 u _ (by decide) (by decide) dL_row_13
        exact k2 r9 σ9 hq9 ⟨ok.1, ok.2.1, ok.2.2.1, ok.2.2.2.1, ok.2.2.2.2.1, ok.2.2.2.2.2.1, ok.2.2.2.2.2.2.1, by decide, by decide⟩ H1 locs1 ls (by rw [← ht]; exact hF1) hS1 hl1
      · intro x u t H1 locs1 ht hvm hp
        exact hp.elim
    exact key r σ' hq okx s.heap [] _ hF va_S.rf hl0
