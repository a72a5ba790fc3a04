
/-! ===== the memory that the constructors make ===== -/
def rowOf (l : List Int) : Nat → Int := fun j => l.getD j 0
def baseT : List (List Int) := [[0, 0, 0], [1, 0, 50, 0, 0, 0, 0, 0, 0, 0, 0, 0, 0, 0, 0], [138, 0, 0, 50, 0, 0, 0, 0, 0, 0, 0, 0, 0], [0, 0], [0, 0, -1, 0, 0, 0, 0, 0, 0, 0, 0, 0], [0, 0, 4, 0, 0, 0, 0], [0, 0, 0, 0], [0, 0, 0, 0, 0, 0, 0, 0, 0, 0, 50, 0, 0, 0, 0, 0, 0, 0, 0, 0, 0, 0, 0, 0, 0, 0, 0, 0, 0, 0, 0, 0, 0, 0, 0, 0, 0, -1, 0, 0, 0, 0, 0, 0, 0, 0, 0, 0, 0, 0]]
def m0l (k : Nat) : List Int :=
  if kd k < 8 then (baseT.getD (kd k) []).zipIdx.map (fun q => if so (kd k) q.2 = 0 then q.1 else ((k + so (kd k) q.2 + 1 : Nat) : Int))
  else if kd k = 5012 then (List.range 12).map (fun i => ((k + 1 + 11 * i + 1 : Nat) : Int))
  else if kd k = 6010 then (List.range 10).map (fun i => ((283 + 4 * i + 1 : Nat) : Int))
  else []
def M0 (k : Nat) : Nat → Int := rowOf (m0l k)
def fl (a b : Nat) (σ : Mem) : Mem := fun k => if a ≤ k ∧ k < b then M0 k else σ k
def setrow (σ : Mem) (k : Nat) (l : List Int) : Mem := fun a => if a = k then rowOf l else σ a
theorem rowOf_nil : rowOf [] = fun _ => 0 := by funext j; simp [rowOf]
theorem rowOf_rep (n : Nat) : rowOf (List.replicate n 0) = fun _ => 0 := by
  funext j
  unfold rowOf
  rw [List.getD_eq_getElem?_getD, List.getElem?_replicate]
  by_cases h : j < n <;> simp [h]
theorem mset_setrow {σ : Mem} {k j : Nat} {v : Int} {l : List Int} (h : j < l.length) : mset (setrow σ k l) k j v = setrow σ k (l.set j v) := by
  funext a
  by_cases ha : a = k
  · subst ha
    funext b
    simp only [mset, setrow, if_true, rowOf, List.getD_eq_getElem?_getD, List.getElem?_set]
    by_cases hb : b = j
    · subst hb; simp [h]
    · rw [if_neg hb, if_neg (fun e => hb e.symm)]
  · simp [mset, setrow, ha]
theorem setrow_zero {σ : Mem} {k : Nat} (n : Nat) (h : ∀ j, σ k j = 0) : σ = setrow σ k (List.replicate n 0) := by
  funext a
  by_cases ha : a = k
  · subst ha
    simp only [setrow, if_true, rowOf_rep]
    funext j
    exact h j
  · simp [setrow, ha]
theorem fl_setrow {σ : Mem} {a b k : Nat} {l : List Int} (h : k < a ∨ b ≤ k) : fl a b (setrow σ k l) = setrow (fl a b σ) k l := by
  funext x
  by_cases hx : x = k
  · subst hx
    simp only [fl, setrow, if_true]
    rw [if_neg (by omega)]
  · simp [fl, setrow, hx]
theorem fl_fl {σ : Mem} {a b c : Nat} (h1 : a ≤ b) (h2 : b ≤ c) : fl b c (fl a b σ) = fl a c σ := by
  funext x
  unfold fl
  by_cases h : b ≤ x ∧ x < c
  · rw [if_pos h, if_pos (by omega)]
  · rw [if_neg h]
    by_cases g : a ≤ x ∧ x < b
    · rw [if_pos g, if_pos (by omega)]
    · rw [if_neg g, if_neg (by omega)]
/-- a plain array's place holds nothing at first -/
def plain (d : Nat) : Bool := 1000 ≤ d && d != 5012 && d != 6010
theorem M0_plain {k : Nat} (h : plain (kd k) = true) : M0 k = fun _ => 0 := by
  unfold plain at h
  simp only [Bool.and_eq_true, decide_eq_true_eq, bne_iff_ne, ne_eq] at h
  unfold M0 m0l
  rw [if_neg (by omega), if_neg h.1.2, if_neg h.2, rowOf_nil]
/-- one object, plain arrays behind it -/
theorem fl_one {σ : Mem} {a b : Nat} {l : List Int} (hab : a < b) (hl : m0l a = l) (hz : ∀ k, a ≤ k → ∀ j, σ k j = 0) (hp : ∀ k, a < k → k < b → plain (kd k) = true) : setrow σ a l = fl a b σ := by
  funext x
  by_cases hx : x = a
  · subst hx
    simp only [setrow, fl, if_true]
    rw [if_pos (by omega)]
    unfold M0
    rw [hl]
  · simp only [setrow, hx, if_false, fl]
    by_cases h : a ≤ x ∧ x < b
    · rw [if_pos h, M0_plain (hp x (by omega) h.2)]
      funext j
      exact hz x h.1 j
    · rw [if_neg h]
theorem fl_zero {σ : Mem} {a b n : Nat} (hb : b ≤ n) (h : ∀ k, a ≤ k → ∀ j, σ k j = 0) : ∀ k, n ≤ k → a ≤ k → ∀ j, fl a b σ k j = 0 := by
  intro k hk ha j
  unfold fl
  rw [if_neg (by omega)]
  exact h k ha j
/-! ===== contracts of constructors ===== -/
def PcG (D : va_G) (ca : Nat → ClassId) (B n : Nat) (σ : Mem) (As : List Value) : Array Value → State → Prop := va_Pc As (fun U => GW D ca B n σ U.heap ∧ va_K D vwCl (tyL ca) U ∧ NsG U)
abbrev QcG (D : va_G) (ca : Nat → ClassId) (B n : Nat) (σ : Mem) : Array Value → State → Outcome → State → Prop := va_Qv (fun u : Mem => u = σ) (fun u t => GW D ca B n u t.heap) (fun a => B ≤ a)
abbrev QcR (D : va_G) (ca : Nat → ClassId) (B n a : Nat) (σ : Mem) : Array Value → State → Outcome → State → Prop := va_Qr (fun u : Mem => u = σ) (fun u b t => b = B + a ∧ GW D ca B n u t.heap) (fun a => B ≤ a)
def CtG (y : MethodName) (bytes : ByteArray) (maxL : Nat) (rm : Room) (B : Nat) (As : List Value) (n : Nat) (σ : Mem) (n' : Nat) (σ' : Mem) (mc ms : Nat) : Prop := ∀ (l : Launch) (D : va_G) (ca : Nat → ClassId), Met l y (WS y bytes maxL none) rm (PcG D ca B n σ As) (QcG D ca B n' σ') mc ms (fun a => B ≤ a)
def CtR (y : MethodName) (bytes : ByteArray) (maxL : Nat) (ret : Option FieldType) (rm : Room) (B : Nat) (As : List Value) (n : Nat) (σ : Mem) (n' a : Nat) (σ' : Mem) (mc ms : Nat) : Prop := ∀ (l : Launch) (D : va_G) (ca : Nat → ClassId), Met l y (WS y bytes maxL ret) rm (PcG D ca B n σ As) (QcR D ca B n' a σ') mc ms (fun a => B ≤ a)
def CxG (B n' : Nat) (σ' : Mem) (mc ms : Nat) (X : Ctx) : Prop := match X with
  | (_, _, _, s, _, args, below, meth, _, D, ca, _, _, Z) => meth.sig.returnType = none ∧ meth.locks = false ∧ Z = fun _ _ => MQ below (QcG D ca B n' σ') args s mc ms (fun a => B ≤ a)
def CxR (B n' a : Nat) (σ' : Mem) (mc ms : Nat) (X : Ctx) : Prop := match X with
  | (_, _, _, s, _, args, below, meth, _, D, ca, _, _, Z) => meth.sig.returnType = some (.array (.object RX1)) ∧ meth.locks = false ∧ Z = fun _ _ => MQ below (QcR D ca B n' a σ') args s mc ms (fun a => B ≤ a)
section CTORS
variable {cc : ByteArray} {own : String} {nL : Nat} {R : Room} {B : Nat} {X : Ctx} {n cs sl : Nat} {σ : Mem} {pc : Nat} {lv lv' : List (Nat × Value)} {st : List Value}
theorem g_eq {σ2 : Mem} (h : σ = σ2) (k : Sig cc own nL R B X n cs sl σ2 pc lv st) : Sig cc own nL R B X n cs sl σ pc lv st := h ▸ k
theorem g_vret {mc ms : Nat} (hX : CxG B n σ mc ms X) (hd : decode cc pc = .ok (.return_, 1)) : Sig cc own nL R B X n mc ms σ pc lv [] := by
  obtain ⟨p, l, e, s, m, args, below, meth, c, D, ca, cells, slots, Z⟩ := X
  obtain ⟨hr, hlocks, hZ⟩ := hX
  intro ok H locs ls hF hS hl
  subst hZ
  exact W.vret ok.1 ok.2.1 hr (fun t ht hW => ⟨⟨σ, rfl, rfl, by show GW D ca B n σ t.heap; rw [ht]; exact hF⟩, hS.F ht⟩) hS.2.2 hd hlocks
theorem g_aret {a mc ms : Nat} (hX : CxR B n a σ mc ms X) (hd : decode cc pc = .ok (.areturn, 1)) : Sig cc own nL R B X n mc ms σ pc lv [rv B a] := by
  obtain ⟨p, l, e, s, m, args, below, meth, c, D, ca, cells, slots, Z⟩ := X
  obtain ⟨hr, hlocks, hZ⟩ := hX
  intro ok H locs ls hF hS hl
  subst hZ
  exact W.aret ok.1 ok.2.1 hr (Or.inr ⟨_, rfl⟩) (Or.inr ⟨_, rfl⟩) (fun t ht hW => ⟨⟨σ, B + a, rfl, rfl, by show B + a = B + a ∧ GW D ca B n σ t.heap; rw [ht]; exact ⟨rfl, hF⟩⟩, hS.F ht⟩) hS.2.2 hd hlocks
theorem ctG_intro {y : MethodName} {bytes : ByteArray} {maxL : Nat} {rm : Room} {As : List Value} {n' mc ms : Nat} {σ' : Mem} (hy : plainName y.cls = true) (hown : y.cls = own) (hnm : y.name = "<init>") (hA : (lg_sl As).length ≤ maxL) (hlv : lv_args 0 As = lv)
    (k : ∀ X, InitX X → CxG B n' σ' mc ms X → Sig bytes own maxL rm B X n 0 0 σ 0 lv []) : CtG y bytes maxL rm B As n σ n' σ' mc ms := by
  intro l D ca
  refine Met.ofW (cc := bytes) (maxL := maxL) (ret := none) hy rfl ?_
  intro p e s m args below meth c s₁ BL hml hv
  obtain ⟨rfl, hF, hK, hN⟩ := hv
  have hts := atoms_spec (ws := WS y bytes maxL none) BL.pre
  have hown2 : s.vm.findClass own = some m.cls := by rw [← hown]; exact findClass_of_methodNamed BL.named
  have hl := lv_entry As (n := maxL) hA
  have hin : meth.name = "<init>" := (name_of_methodNamed BL.named BL.method).1.trans hnm
  rw [lg_entry_eq]
  rw [hlv] at hl
  exact k (p, l, e, s, m, As.toArray, below, meth, c, D, ca, 0, 0, fun _ _ => MQ below (QcG D ca B n' σ') As.toArray s mc ms (fun a => B ≤ a)) hin ⟨BL.returns, BL.notSynchronized, rfl⟩ ⟨BL.exec, BL.bytes, hml, hown2, fun w hw => hts w (List.mem_cons_of_mem _ hw), hK, hN⟩ s.heap [] _ hF va_S.rf hl
theorem ctR_intro {y : MethodName} {bytes : ByteArray} {maxL : Nat} {rm : Room} {As : List Value} {n' a mc ms : Nat} {σ' : Mem} (hy : plainName y.cls = true) (hown : y.cls = own) (hA : (lg_sl As).length ≤ maxL) (hlv : lv_args 0 As = lv)
    (k : ∀ X, CxR B n' a σ' mc ms X → Sig bytes own maxL rm B X n 0 0 σ 0 lv []) : CtR y bytes maxL (some (.array (.object RX1))) rm B As n σ n' a σ' mc ms := by
  intro l D ca
  refine Met.ofW (cc := bytes) (maxL := maxL) (ret := some (.array (.object RX1))) hy rfl ?_
  intro p e s m args below meth c s₁ BL hml hv
  obtain ⟨rfl, hF, hK, hN⟩ := hv
  have hts := atoms_spec (ws := WS y bytes maxL (some (.array (.object RX1)))) BL.pre
  have hown2 : s.vm.findClass own = some m.cls := by rw [← hown]; exact findClass_of_methodNamed BL.named
  have hl := lv_entry As (n := maxL) hA
  rw [lg_entry_eq]
  rw [hlv] at hl
  exact k (p, l, e, s, m, As.toArray, below, meth, c, D, ca, 0, 0, fun _ _ => MQ below (QcR D ca B n' a σ') As.toArray s mc ms (fun a => B ≤ a)) ⟨BL.returns, BL.notSynchronized, rfl⟩ ⟨BL.exec, BL.bytes, hml, hown2, fun w hw => hts w (List.mem_cons_of_mem _ hw), hK, hN⟩ s.heap [] _ hF va_S.rf hl
theorem pcG_blind {D : va_G} {ca : Nat → ClassId} {As : List Value} : FrameBlind (PcG D ca B n σ As) := by
  intro a U g mk h
  obtain ⟨h1, h2, h3, h4⟩ := h
  exact ⟨h1, h2, va_K.moved (u := U) (U := U.calling g mk a) (Vm.Alike.refl U.vm) h3, fun w hw => va_Nw.same (u := U) (U := U.calling g mk a) (by simp only [nestG, List.mem_cons, List.not_mem_nil, or_false] at hw; rcases hw with rfl | rfl | rfl | rfl | rfl | rfl | rfl | rfl | rfl | rfl | rfl | rfl <;> rfl) rfl (h4.1 w hw), va_AO.moved (u := U) (U := U.calling g mk a) (Vm.Alike.refl U.vm) h4.2.1, va_AO.moved (u := U) (U := U.calling g mk a) (Vm.Alike.refl U.vm) h4.2.2⟩
theorem pcG_at {D : va_G} {ca : Nat → ClassId} {As : List Value} {p : Program} {s : State} {m : MethodId} {args : Array Value} {c : Code} {H : Heap} (ok : OkG cc own nL p s m args c D ca) (hF : GW D ca B n σ H) : ∀ U : State, U.heap = H → s.WarmedH U.vm → PcG D ca B n σ As As.toArray U :=
  fun U hU hW => ⟨rfl, by rw [hU]; exact hF, va_K.moved hW.alike ok.2.2.2.2.2.1, NsG.warm hW ok.2.2.2.2.2.2⟩
def MeI (y : MethodName) (bytes : ByteArray) (maxL : Nat) : Prop := MeB y bytes maxL none 0 ∧ Cond.instanceMethod y ∈ TB ∧ y.name = "<init>"
def RmG (rm R : Room) (maxL mc ms : Nat) : Prop := rm.cells = mc ∧ rm.slots = ms ∧ rm.frames + 1 ≤ R.frames ∧ 8 + (maxL + 11) + rm.locals ≤ R.locals
theorem g_callN {y : MethodName} {bytes : ByteArray} {maxL idx b n' mc ms : Nat} {rm : Room} {σ' : Mem} (hd : decode cc pc = .ok (.invokespecial idx, 3)) (hlk : Cond.methodLinkNest own idx y RX6 ∈ nestG) (me : MeI y bytes maxL) (ct : CtG y bytes maxL rm B [rv B b] n σ n' σ' mc ms) (hrm : RmG rm R maxL mc ms) (hR : cs + mc ≤ R.cells ∧ sl + ms ≤ R.slots) (hw : (st.map fun v => v.category).sum ≤ 8) (k : Sig cc own nL R B X n' (cs + mc) (sl + ms) σ' (pc + 3) lv st) : Sig cc own nL R B X n cs sl σ pc lv (rv B b :: st) := by
  obtain ⟨p, l, e, s, m, args, below, meth, c, D, ca, cells, slots, Z⟩ := X
  intro ok H locs ls hF hS hl
  refine va_callv (S := Mem) (va_runIN (As := []) (rest := st) (host := RX6) ⟨ok.1, ok.2.1, ok.2.2.1, ok.2.2.2.1, ok.2.2.2.2.1⟩ (ct l D ca) ⟨va_cnB 0 ok.2.2.2.2.1 (good_WS me.1.1) rfl hrm.1 hrm.2.1 (ok.2.2.2.2.2.2.1 _ hlk) (ok.2.2.2.2.1 _ me.1.2.1) me.1.2.2 hrm.2.2, me.2.2, ok.2.2.2.2.1 _ me.2.1⟩ ⟨pcG_blind, pcG_at ok hF⟩ rfl rfl hl.1 rfl (lv_room hw) hd hR) hS (fun _ _ h => h) (fun _ h => h) (fun u t H1 locs1 ht hvm hp hB hz1 hk1 hS1 => ?_)
  subst hp
  exact k ok H1 locs1 ls (by rw [← ht]; exact hB) hS1 hl
theorem g_callI {y : MethodName} {bytes : ByteArray} {maxL idx b n' mc ms : Nat} {rm : Room} {σ' : Mem} (hd : decode cc pc = .ok (.invokespecial idx, 3)) (hlk : Cond.methodLink own idx y ∈ TB) (me : MeI y bytes maxL) (ct : CtG y bytes maxL rm B [rv B b] n σ n' σ' mc ms) (hrm : RmG rm R maxL mc ms) (hR : cs + mc ≤ R.cells ∧ sl + ms ≤ R.slots) (hw : (st.map fun v => v.category).sum ≤ 8) (k : Sig cc own nL R B X n' (cs + mc) (sl + ms) σ' (pc + 3) lv st) : Sig cc own nL R B X n cs sl σ pc lv (rv B b :: st) := by
  obtain ⟨p, l, e, s, m, args, below, meth, c, D, ca, cells, slots, Z⟩ := X
  intro ok H locs ls hF hS hl
  refine va_callv (S := Mem) (va_runI (As := []) (rest := st) ⟨ok.1, ok.2.1, ok.2.2.1, ok.2.2.2.1, ok.2.2.2.2.1⟩ (ct l D ca) ⟨callB_of 0 ok.2.2.2.2.1 (good_WS me.1.1) rfl hrm.1 hrm.2.1 (ok.2.2.2.2.1 _ me.1.2.1) (ok.2.2.2.2.1 _ hlk) me.1.2.2 hrm.2.2, me.2.2, ok.2.2.2.2.1 _ me.2.1⟩ ⟨pcG_blind, pcG_at ok hF⟩ rfl rfl hl.1 rfl (lv_room hw) hd hR) hS (fun _ _ h => h) (fun _ h => h) (fun u t H1 locs1 ht hvm hp hB hz1 hk1 hS1 => ?_)
  subst hp
  exact k ok H1 locs1 ls (by rw [← ht]; exact hB) hS1 hl
theorem g_callR {y : MethodName} {bytes : ByteArray} {maxL idx a n' mc ms : Nat} {ret : Option FieldType} {rm : Room} {σ' : Mem} (hd : decode cc pc = .ok (.invokestatic idx, 3)) (hlk : Cond.methodLinkNest own idx y RX6 ∈ nestG) (me : MeS y bytes maxL ret 0) (ct : CtR y bytes maxL ret rm B [] n σ n' a σ' mc ms) (hrm : RmG rm R maxL mc ms) (hR : cs + mc ≤ R.cells ∧ sl + ms ≤ R.slots) (hw : (st.map fun v => v.category).sum ≤ 8) (k : Sig cc own nL R B X n' (cs + mc) (sl + ms) σ' (pc + 3) lv (rv B a :: st)) : Sig cc own nL R B X n cs sl σ pc lv st := by
  obtain ⟨p, l, e, s, m, args, below, meth, c, D, ca, cells, slots, Z⟩ := X
  intro ok H locs ls hF hS hl
  refine va_callr (S := Mem) (va_runSN (As := []) (rest := st) (host := RX6) ⟨ok.1, ok.2.1, ok.2.2.1, ok.2.2.2.1, ok.2.2.2.2.1⟩ (ct l D ca) ⟨va_cnB 0 ok.2.2.2.2.1 (good_WS me.1.1) rfl hrm.1 hrm.2.1 (ok.2.2.2.2.2.2.1 _ hlk) (ok.2.2.2.2.1 _ me.1.2.1) me.1.2.2 hrm.2.2, ok.2.2.2.2.1 _ me.2, trivial⟩ ⟨pcG_blind, pcG_at ok hF⟩ rfl rfl hl.1 rfl (lv_room hw) hd hR) hS (fun _ _ h => h) (fun _ h => h) (fun u ra t H1 locs1 ht hvm hp hB hz1 hk1 hS1 => ?_)
  obtain ⟨hra, hB⟩ := hB
  subst hra
  subst hp
  exact k ok H1 locs1 ls (by rw [← ht]; exact hB) hS1 hl
theorem g_putI {ci j idx k : Nat} {v : Int} {l : List Int} (hd : decode cc pc = .ok (.putfield idx, 3)) (hly : LayOk ci) (hty : TyOk ci) (hlk : FLk own idx ci j) (hk : kd k = ci) (hkn : k < n) (ht : (fty ci)[j]? = some 0) (hp : ∀ v : Int, PutOk ci j (iv v)) (hj : j < l.length) (kk : Sig cc own nL R B X n cs sl (setrow σ k (l.set j v)) (pc + 3) lv st) : Sig cc own nL R B X n cs sl (setrow σ k l) pc lv (iv v :: rv B k :: st) :=
  g_puti hd hly hty hlk hk hkn ht hp (by rw [mset_setrow hj]; exact kk)
theorem g_putRF {ci j idx k a : Nat} {l : List Int} (hX : InitX X) (hd : decode cc pc = .ok (.putfield idx, 3)) (hly : LayOk ci) (hty : TyOk ci) (hlk : FLk own idx ci j) (hk : kd k = ci) (hkn : k < n) (ht : (fty ci)[j]? = some 2) (hp : ∀ b : Nat, PutF own ci j (.ref b)) (hj : j < l.length) (kk : Sig cc own nL R B X n cs sl (setrow σ k (l.set j ((a + 1 : Nat) : Int))) (pc + 3) lv st) : Sig cc own nL R B X n cs sl (setrow σ k l) pc lv (rv B a :: rv B k :: st) :=
  g_putrf hX hd hly hty hlk hk hkn ht hp (by rw [mset_setrow hj]; exact kk)
theorem g_putRN {ci j idx k a : Nat} {l : List Int} (hd : decode cc pc = .ok (.putfield idx, 3)) (hly : LayOk ci) (hty : TyOk ci) (hlk : FLk own idx ci j) (hk : kd k = ci) (hkn : k < n) (ht : (fty ci)[j]? = some 2) (hp : ∀ b : Nat, PutOk ci j (.ref b)) (hj : j < l.length) (kk : Sig cc own nL R B X n cs sl (setrow σ k (l.set j ((a + 1 : Nat) : Int))) (pc + 3) lv st) : Sig cc own nL R B X n cs sl (setrow σ k l) pc lv (rv B a :: rv B k :: st) :=
  g_putrn hd hly hty hlk hk hkn ht hp (by rw [mset_setrow hj]; exact kk)
end CTORS

theorem oi_inst : Cond.instanceMethod objectInit ∈ TB := tbm (i := 91) (by decide +kernel) (by decide +kernel)
theorem oi_code : Cond.code objectInit ⟨#[0xb1]⟩ 1 none ∈ TB := tbm (i := 92) (by decide +kernel) (by decide +kernel)
theorem oi_X6 : Cond.methodLink RX6 1 objectInit ∈ TB := tbm (i := 90) (by decide +kernel) (by decide +kernel)
theorem oi_X0 : Cond.methodLink RX0 3 objectInit ∈ TB := tbm (i := 352) (by decide +kernel) (by decide +kernel)
theorem oi_X1 : Cond.methodLink RX1 3 objectInit ∈ TB := tbm (i := 108) (by decide +kernel) (by decide +kernel)
theorem oi_X2 : Cond.methodLink RX2 3 objectInit ∈ TB := tbm (i := 213) (by decide +kernel) (by decide +kernel)
theorem oi_X3 : Cond.methodLink RX3 3 objectInit ∈ TB := tbm (i := 336) (by decide +kernel) (by decide +kernel)
theorem oi_X4 : Cond.methodLink RX4 3 objectInit ∈ TB := tbm (i := 223) (by decide +kernel) (by decide +kernel)
theorem oi_X5 : Cond.methodLink RX5 3 objectInit ∈ TB := tbm (i := 98) (by decide +kernel) (by decide +kernel)
theorem oi_X7 : Cond.methodLink RX7 1 objectInit ∈ TB := tbm (i := 1056) (by decide +kernel) (by decide +kernel)
theorem nw0 : NewOk 0 := ⟨RX0, TX0, 3, tyX0, rfl, tyX0_ok, fun B j hj => (by
  match j, hj with
  | 0, _ => rfl
  | 1, _ => rfl
  | 2, _ => rfl
  | j + 3, hj => exact absurd hj (by omega)), tbm (i := 348) (by decide +kernel) (by decide +kernel), tbm (i := 77) (by decide +kernel) (by decide +kernel), rfl⟩
theorem nw1 : NewOk 1 := ⟨RX1, TX1, 15, tyX1, rfl, tyX1_ok, fun B j hj => (by
  match j, hj with
  | 0, _ => rfl
  | 1, _ => rfl
  | 2, _ => rfl
  | 3, _ => rfl
  | 4, _ => rfl
  | 5, _ => rfl
  | 6, _ => rfl
  | 7, _ => rfl
  | 8, _ => rfl
  | 9, _ => rfl
  | 10, _ => rfl
  | 11, _ => rfl
  | 12, _ => rfl
  | 13, _ => rfl
  | 14, _ => rfl
  | j + 15, hj => exact absurd hj (by omega)), tbm (i := 104) (by decide +kernel) (by decide +kernel), tbm (i := 73) (by decide +kernel) (by decide +kernel), rfl⟩
theorem nw2 : NewOk 2 := ⟨RX2, TX2, 13, tyX2, rfl, tyX2_ok, fun B j hj => (by
  match j, hj with
  | 0, _ => rfl
  | 1, _ => rfl
  | 2, _ => rfl
  | 3, _ => rfl
  | 4, _ => rfl
  | 5, _ => rfl
  | 6, _ => rfl
  | 7, _ => rfl
  | 8, _ => rfl
  | 9, _ => rfl
  | 10, _ => rfl
  | 11, _ => rfl
  | 12, _ => rfl
  | j + 13, hj => exact absurd hj (by omega)), tbm (i := 209) (by decide +kernel) (by decide +kernel), tbm (i := 74) (by decide +kernel) (by decide +kernel), rfl⟩
theorem nw3 : NewOk 3 := ⟨RX3, TX3, 2, tyX3, rfl, tyX3_ok, fun B j hj => (by
  match j, hj with
  | 0, _ => rfl
  | 1, _ => rfl
  | j + 2, hj => exact absurd hj (by omega)), tbm (i := 332) (by decide +kernel) (by decide +kernel), tbm (i := 76) (by decide +kernel) (by decide +kernel), rfl⟩
theorem nw4 : NewOk 4 := ⟨RX4, TX4, 12, tyX4, rfl, tyX4_ok, fun B j hj => (by
  match j, hj with
  | 0, _ => rfl
  | 1, _ => rfl
  | 2, _ => rfl
  | 3, _ => rfl
  | 4, _ => rfl
  | 5, _ => rfl
  | 6, _ => rfl
  | 7, _ => rfl
  | 8, _ => rfl
  | 9, _ => rfl
  | 10, _ => rfl
  | 11, _ => rfl
  | j + 12, hj => exact absurd hj (by omega)), tbm (i := 219) (by decide +kernel) (by decide +kernel), tbm (i := 75) (by decide +kernel) (by decide +kernel), rfl⟩
theorem nw5 : NewOk 5 := ⟨RX5, TX5, 7, tyX5, rfl, tyX5_ok, fun B j hj => (by
  match j, hj with
  | 0, _ => rfl
  | 1, _ => rfl
  | 2, _ => rfl
  | 3, _ => rfl
  | 4, _ => rfl
  | 5, _ => rfl
  | 6, _ => rfl
  | j + 7, hj => exact absurd hj (by omega)), tbm (i := 94) (by decide +kernel) (by decide +kernel), tbm (i := 72) (by decide +kernel) (by decide +kernel), rfl⟩
theorem nw6 : NewOk 6 := ⟨RX6, TX6, 4, tyX6, rfl, tyX6_ok, fun B j hj => (by
  match j, hj with
  | 0, _ => rfl
  | 1, _ => rfl
  | 2, _ => rfl
  | 3, _ => rfl
  | j + 4, hj => exact absurd hj (by omega)), tbm (i := 86) (by decide +kernel) (by decide +kernel), tbm (i := 71) (by decide +kernel) (by decide +kernel), rfl⟩
theorem nw7 : NewOk 7 := ⟨RX7, TX7, 50, tyX7, rfl, tyX7_ok, fun B j hj => (by
  match j, hj with
  | 0, _ => rfl
  | 1, _ => rfl
  | 2, _ => rfl
  | 3, _ => rfl
  | 4, _ => rfl
  | 5, _ => rfl
  | 6, _ => rfl
  | 7, _ => rfl
  | 8, _ => rfl
  | 9, _ => rfl
  | 10, _ => rfl
  | 11, _ => rfl
  | 12, _ => rfl
  | 13, _ => rfl
  | 14, _ => rfl
  | 15, _ => rfl
  | 16, _ => rfl
  | 17, _ => rfl
  | 18, _ => rfl
  | 19, _ => rfl
  | 20, _ => rfl
  | 21, _ => rfl
  | 22, _ => rfl
  | 23, _ => rfl
  | 24, _ => rfl
  | 25, _ => rfl
  | 26, _ => rfl
  | 27, _ => rfl
  | 28, _ => rfl
  | 29, _ => rfl
  | 30, _ => rfl
  | 31, _ => rfl
  | 32, _ => rfl
  | 33, _ => rfl
  | 34, _ => rfl
  | 35, _ => rfl
  | 36, _ => rfl
  | 37, _ => rfl
  | 38, _ => rfl
  | 39, _ => rfl
  | 40, _ => rfl
  | 41, _ => rfl
  | 42, _ => rfl
  | 43, _ => rfl
  | 44, _ => rfl
  | 45, _ => rfl
  | 46, _ => rfl
  | 47, _ => rfl
  | 48, _ => rfl
  | 49, _ => rfl
  | j + 50, hj => exact absurd hj (by omega)), tbm (i := 1052) (by decide +kernel) (by decide +kernel), tbm (i := 78) (by decide +kernel) (by decide +kernel), rfl⟩
theorem ac_int : Cond.arrayClass .int ∈ TB := tbm (i := 180) (by decide +kernel) (by decide +kernel)
theorem ac_boolean : Cond.arrayClass .boolean ∈ TB := tbm (i := 181) (by decide +kernel) (by decide +kernel)
theorem ac_byte : Cond.arrayClass .byte ∈ TB := tbm (i := 1050) (by decide +kernel) (by decide +kernel)
theorem ac_long : Cond.arrayClass .long ∈ TB := tbm (i := 346) (by decide +kernel) (by decide +kernel)
theorem cn_L_8 : Cond.classLink RL 8 RX6 ∈ TB := tbm (i := 85) (by decide +kernel) (by decide +kernel)
theorem cn_X6_7 : Cond.classLink RX6 7 RX5 ∈ TB := tbm (i := 93) (by decide +kernel) (by decide +kernel)
theorem cn_X6_95 : Cond.classLink RX6 95 RX1 ∈ TB := tbm (i := 102) (by decide +kernel) (by decide +kernel)
theorem cn_X6_16 : Cond.classLink RX6 16 RX2 ∈ TB := tbm (i := 208) (by decide +kernel) (by decide +kernel)
theorem cn_X2_19 : Cond.classLink RX2 19 RX4 ∈ TB := tbm (i := 215) (by decide +kernel) (by decide +kernel)
theorem cn_X2_33 : Cond.classLink RX2 33 RX1 ∈ TB := tbm (i := 217) (by decide +kernel) (by decide +kernel)
theorem cn_X6_23 : Cond.classLink RX6 23 RX3 ∈ TB := tbm (i := 331) (by decide +kernel) (by decide +kernel)
theorem cn_X6_30 : Cond.classLink RX6 30 RX0 ∈ TB := tbm (i := 347) (by decide +kernel) (by decide +kernel)
theorem cn_L_16 : Cond.classLink RL 16 RX7 ∈ TB := tbm (i := 1051) (by decide +kernel) (by decide +kernel)
theorem ng_X6_9 : Cond.methodLinkNest RX6 9 yX5_init RX6 ∈ nestG := by simp [nestG]
theorem ng_X6_25 : Cond.methodLinkNest RX6 25 yX3_init RX6 ∈ nestG := by simp [nestG]
theorem ng_X6_32 : Cond.methodLinkNest RX6 32 yX0_init RX6 ∈ nestG := by simp [nestG]
theorem ng_X6_353 : Cond.methodLinkNest RX6 353 yX1_init RX6 ∈ nestG := by simp [nestG]
theorem ng_X1_82 : Cond.methodLinkNest RX1 82 yX6_parts RX6 ∈ nestG := by simp [nestG]
theorem ng_X2_9 : Cond.methodLinkNest RX2 9 yX6_newLines RX6 ∈ nestG := by simp [nestG]
theorem ng_X2_35 : Cond.methodLinkNest RX2 35 yX1_init RX6 ∈ nestG := by simp [nestG]
theorem ng_X2_40 : Cond.methodLinkNest RX2 40 yX4_init RX6 ∈ nestG := by simp [nestG]
theorem ng_X2_70 : Cond.methodLinkNest RX2 70 yX6_bit RX6 ∈ nestG := by simp [nestG]
theorem ng_X2_160 : Cond.methodLinkNest RX2 160 yX6_parts RX6 ∈ nestG := by simp [nestG]
theorem ng_X4_34 : Cond.methodLinkNest RX4 34 yX6_parts RX6 ∈ nestG := by simp [nestG]
theorem ng_X5_15 : Cond.methodLinkNest RX5 15 yX6_newLines RX6 ∈ nestG := by simp [nestG]
theorem miX0_init : MeI yX0_init cX0_init 1 := ⟨⟨tbm (i := 351) (by decide +kernel) (by decide +kernel), tbm (i := 77) (by decide +kernel) (by decide +kernel), by decide +kernel, by decide +kernel, by decide +kernel⟩, tbm (i := 350) (by decide +kernel) (by decide +kernel), rfl⟩
theorem miX1_init : MeI yX1_init cX1_init 1 := ⟨⟨tbm (i := 107) (by decide +kernel) (by decide +kernel), tbm (i := 73) (by decide +kernel) (by decide +kernel), by decide +kernel, by decide +kernel, by decide +kernel⟩, tbm (i := 106) (by decide +kernel) (by decide +kernel), rfl⟩
theorem miX2_init : MeI yX2_init cX2_init 2 := ⟨⟨tbm (i := 212) (by decide +kernel) (by decide +kernel), tbm (i := 74) (by decide +kernel) (by decide +kernel), by decide +kernel, by decide +kernel, by decide +kernel⟩, tbm (i := 211) (by decide +kernel) (by decide +kernel), rfl⟩
theorem miX3_init : MeI yX3_init cX3_init 1 := ⟨⟨tbm (i := 335) (by decide +kernel) (by decide +kernel), tbm (i := 76) (by decide +kernel) (by decide +kernel), by decide +kernel, by decide +kernel, by decide +kernel⟩, tbm (i := 334) (by decide +kernel) (by decide +kernel), rfl⟩
theorem miX4_init : MeI yX4_init cX4_init 1 := ⟨⟨tbm (i := 222) (by decide +kernel) (by decide +kernel), tbm (i := 75) (by decide +kernel) (by decide +kernel), by decide +kernel, by decide +kernel, by decide +kernel⟩, tbm (i := 221) (by decide +kernel) (by decide +kernel), rfl⟩
theorem miX5_init : MeI yX5_init cX5_init 1 := ⟨⟨tbm (i := 97) (by decide +kernel) (by decide +kernel), tbm (i := 72) (by decide +kernel) (by decide +kernel), by decide +kernel, by decide +kernel, by decide +kernel⟩, tbm (i := 96) (by decide +kernel) (by decide +kernel), rfl⟩
theorem miX6_init : MeI yX6_init cX6_init 1 := ⟨⟨tbm (i := 89) (by decide +kernel) (by decide +kernel), tbm (i := 71) (by decide +kernel) (by decide +kernel), by decide +kernel, by decide +kernel, by decide +kernel⟩, tbm (i := 88) (by decide +kernel) (by decide +kernel), rfl⟩
theorem miX7_init : MeI yX7_init cX7_init 1 := ⟨⟨tbm (i := 1055) (by decide +kernel) (by decide +kernel), tbm (i := 78) (by decide +kernel) (by decide +kernel), by decide +kernel, by decide +kernel, by decide +kernel⟩, tbm (i := 1054) (by decide +kernel) (by decide +kernel), rfl⟩
theorem meNL : MeS yX6_newLines cX6_newLines 2 (some (.array (.object RX1))) 0 := ⟨⟨tbm (i := 101) (by decide +kernel) (by decide +kernel), tbm (i := 71) (by decide +kernel) (by decide +kernel), by decide +kernel, by decide +kernel, by decide +kernel⟩, tbm (i := 100) (by decide +kernel) (by decide +kernel)⟩
theorem li_X6_18 : Cond.methodLink RX6 18 yX2_init ∈ TB := tbm (i := 210) (by decide +kernel) (by decide +kernel)
theorem li_L_15 : Cond.methodLink RL 15 yX6_init ∈ TB := tbm (i := 87) (by decide +kernel) (by decide +kernel)
theorem li_L_18 : Cond.methodLink RL 18 yX7_init ∈ TB := tbm (i := 1053) (by decide +kernel) (by decide +kernel)
theorem gl_X6_10 : FLk RX6 10 6 0 := ⟨RX6, TX6, 4, rfl, tbm (i := 366) (by decide +kernel) (by decide +kernel), by decide⟩
theorem gl_X6_19 : FLk RX6 19 6 1 := ⟨RX6, TX6, 4, rfl, tbm (i := 367) (by decide +kernel) (by decide +kernel), by decide⟩
theorem gl_X6_26 : FLk RX6 26 6 2 := ⟨RX6, TX6, 4, rfl, tbm (i := 368) (by decide +kernel) (by decide +kernel), by decide⟩
theorem gl_X6_33 : FLk RX6 33 6 3 := ⟨RX6, TX6, 4, rfl, tbm (i := 369) (by decide +kernel) (by decide +kernel), by decide⟩
theorem gl_X0_9 : FLk RX0 9 0 0 := ⟨RX0, TX0, 3, rfl, tbm (i := 353) (by decide +kernel) (by decide +kernel), by decide⟩
theorem gl_X0_15 : FLk RX0 15 0 1 := ⟨RX0, TX0, 3, rfl, tbm (i := 355) (by decide +kernel) (by decide +kernel), by decide⟩
theorem gl_X1_9 : FLk RX1 9 1 0 := ⟨RX1, TX1, 15, rfl, tbm (i := 109) (by decide +kernel) (by decide +kernel), by decide⟩
theorem gl_X1_15 : FLk RX1 15 1 2 := ⟨RX1, TX1, 15, rfl, tbm (i := 116) (by decide +kernel) (by decide +kernel), by decide⟩
theorem gl_X1_18 : FLk RX1 18 1 5 := ⟨RX1, TX1, 15, rfl, tbm (i := 123) (by decide +kernel) (by decide +kernel), by decide⟩
theorem gl_X1_22 : FLk RX1 22 1 6 := ⟨RX1, TX1, 15, rfl, tbm (i := 127) (by decide +kernel) (by decide +kernel), by decide⟩
theorem gl_X1_25 : FLk RX1 25 1 7 := ⟨RX1, TX1, 15, rfl, tbm (i := 129) (by decide +kernel) (by decide +kernel), by decide⟩
theorem gl_X1_28 : FLk RX1 28 1 8 := ⟨RX1, TX1, 15, rfl, tbm (i := 132) (by decide +kernel) (by decide +kernel), by decide⟩
theorem gl_X1_31 : FLk RX1 31 1 9 := ⟨RX1, TX1, 15, rfl, tbm (i := 135) (by decide +kernel) (by decide +kernel), by decide⟩
theorem gl_X1_34 : FLk RX1 34 1 10 := ⟨RX1, TX1, 15, rfl, tbm (i := 137) (by decide +kernel) (by decide +kernel), by decide⟩
theorem gl_X1_37 : FLk RX1 37 1 11 := ⟨RX1, TX1, 15, rfl, tbm (i := 140) (by decide +kernel) (by decide +kernel), by decide⟩
theorem gl_X1_41 : FLk RX1 41 1 12 := ⟨RX1, TX1, 15, rfl, tbm (i := 142) (by decide +kernel) (by decide +kernel), by decide⟩
theorem gl_X1_44 : FLk RX1 44 1 13 := ⟨RX1, TX1, 15, rfl, tbm (i := 145) (by decide +kernel) (by decide +kernel), by decide⟩
theorem gl_X1_47 : FLk RX1 47 1 14 := ⟨RX1, TX1, 15, rfl, tbm (i := 147) (by decide +kernel) (by decide +kernel), by decide⟩
theorem gl_X2_13 : FLk RX2 13 2 0 := ⟨RX2, TX2, 13, rfl, tbm (i := 278) (by decide +kernel) (by decide +kernel), by decide⟩
theorem gl_X2_21 : FLk RX2 21 2 2 := ⟨RX2, TX2, 13, rfl, tbm (i := 283) (by decide +kernel) (by decide +kernel), by decide⟩
theorem gl_X2_25 : FLk RX2 25 2 3 := ⟨RX2, TX2, 13, rfl, tbm (i := 286) (by decide +kernel) (by decide +kernel), by decide⟩
theorem gl_X2_29 : FLk RX2 29 2 10 := ⟨RX2, TX2, 13, rfl, tbm (i := 301) (by decide +kernel) (by decide +kernel), by decide⟩
theorem gl_X2_36 : FLk RX2 36 2 12 := ⟨RX2, TX2, 13, rfl, tbm (i := 303) (by decide +kernel) (by decide +kernel), by decide⟩
theorem gl_X3_9 : FLk RX3 9 3 0 := ⟨RX3, TX3, 2, rfl, tbm (i := 337) (by decide +kernel) (by decide +kernel), by decide⟩
theorem gl_X4_9 : FLk RX4 9 4 2 := ⟨RX4, TX4, 12, rfl, tbm (i := 228) (by decide +kernel) (by decide +kernel), by decide⟩
theorem gl_X4_15 : FLk RX4 15 4 9 := ⟨RX4, TX4, 12, rfl, tbm (i := 245) (by decide +kernel) (by decide +kernel), by decide⟩
theorem gl_X4_19 : FLk RX4 19 4 10 := ⟨RX4, TX4, 12, rfl, tbm (i := 249) (by decide +kernel) (by decide +kernel), by decide⟩
theorem gl_X4_22 : FLk RX4 22 4 11 := ⟨RX4, TX4, 12, rfl, tbm (i := 252) (by decide +kernel) (by decide +kernel), by decide⟩
theorem gl_X5_9 : FLk RX5 9 5 0 := ⟨RX5, TX5, 7, rfl, tbm (i := 182) (by decide +kernel) (by decide +kernel), by decide⟩
theorem gl_X5_19 : FLk RX5 19 5 2 := ⟨RX5, TX5, 7, rfl, tbm (i := 185) (by decide +kernel) (by decide +kernel), by decide⟩
theorem gl_X7_9 : FLk RX7 9 7 0 := ⟨RX7, TX7, 50, rfl, tbm (i := 1057) (by decide +kernel) (by decide +kernel), by decide⟩
theorem gl_X7_13 : FLk RX7 13 7 1 := ⟨RX7, TX7, 50, rfl, tbm (i := 1058) (by decide +kernel) (by decide +kernel), by decide⟩
theorem gl_X7_16 : FLk RX7 16 7 2 := ⟨RX7, TX7, 50, rfl, tbm (i := 1059) (by decide +kernel) (by decide +kernel), by decide⟩
theorem gl_X7_19 : FLk RX7 19 7 3 := ⟨RX7, TX7, 50, rfl, tbm (i := 1060) (by decide +kernel) (by decide +kernel), by decide⟩
theorem gl_X7_22 : FLk RX7 22 7 4 := ⟨RX7, TX7, 50, rfl, tbm (i := 1061) (by decide +kernel) (by decide +kernel), by decide⟩
theorem gl_X7_26 : FLk RX7 26 7 5 := ⟨RX7, TX7, 50, rfl, tbm (i := 1062) (by decide +kernel) (by decide +kernel), by decide⟩
theorem gl_X7_29 : FLk RX7 29 7 6 := ⟨RX7, TX7, 50, rfl, tbm (i := 1063) (by decide +kernel) (by decide +kernel), by decide⟩
theorem gl_X7_32 : FLk RX7 32 7 7 := ⟨RX7, TX7, 50, rfl, tbm (i := 1064) (by decide +kernel) (by decide +kernel), by decide⟩
theorem gl_X7_35 : FLk RX7 35 7 8 := ⟨RX7, TX7, 50, rfl, tbm (i := 1065) (by decide +kernel) (by decide +kernel), by decide⟩
theorem gl_X7_39 : FLk RX7 39 7 10 := ⟨RX7, TX7, 50, rfl, tbm (i := 1067) (by decide +kernel) (by decide +kernel), by decide⟩
theorem gl_X7_43 : FLk RX7 43 7 14 := ⟨RX7, TX7, 50, rfl, tbm (i := 1071) (by decide +kernel) (by decide +kernel), by decide⟩
theorem gl_X7_46 : FLk RX7 46 7 15 := ⟨RX7, TX7, 50, rfl, tbm (i := 1072) (by decide +kernel) (by decide +kernel), by decide⟩
theorem gl_X7_49 : FLk RX7 49 7 16 := ⟨RX7, TX7, 50, rfl, tbm (i := 1073) (by decide +kernel) (by decide +kernel), by decide⟩
theorem gl_X7_53 : FLk RX7 53 7 18 := ⟨RX7, TX7, 50, rfl, tbm (i := 1075) (by decide +kernel) (by decide +kernel), by decide⟩
theorem gl_X7_56 : FLk RX7 56 7 21 := ⟨RX7, TX7, 50, rfl, tbm (i := 1078) (by decide +kernel) (by decide +kernel), by decide⟩
theorem gl_X7_59 : FLk RX7 59 7 22 := ⟨RX7, TX7, 50, rfl, tbm (i := 1079) (by decide +kernel) (by decide +kernel), by decide⟩
theorem gl_X7_62 : FLk RX7 62 7 23 := ⟨RX7, TX7, 50, rfl, tbm (i := 1080) (by decide +kernel) (by decide +kernel), by decide⟩
theorem gl_X7_65 : FLk RX7 65 7 24 := ⟨RX7, TX7, 50, rfl, tbm (i := 1081) (by decide +kernel) (by decide +kernel), by decide⟩
theorem gl_X7_68 : FLk RX7 68 7 29 := ⟨RX7, TX7, 50, rfl, tbm (i := 1086) (by decide +kernel) (by decide +kernel), by decide⟩
theorem gl_X7_71 : FLk RX7 71 7 30 := ⟨RX7, TX7, 50, rfl, tbm (i := 1087) (by decide +kernel) (by decide +kernel), by decide⟩
theorem gl_X7_74 : FLk RX7 74 7 31 := ⟨RX7, TX7, 50, rfl, tbm (i := 1088) (by decide +kernel) (by decide +kernel), by decide⟩
theorem gl_X7_77 : FLk RX7 77 7 32 := ⟨RX7, TX7, 50, rfl, tbm (i := 1089) (by decide +kernel) (by decide +kernel), by decide⟩
theorem gl_X7_80 : FLk RX7 80 7 33 := ⟨RX7, TX7, 50, rfl, tbm (i := 1090) (by decide +kernel) (by decide +kernel), by decide⟩
theorem gl_X7_83 : FLk RX7 83 7 34 := ⟨RX7, TX7, 50, rfl, tbm (i := 1091) (by decide +kernel) (by decide +kernel), by decide⟩
theorem gl_X7_86 : FLk RX7 86 7 35 := ⟨RX7, TX7, 50, rfl, tbm (i := 1092) (by decide +kernel) (by decide +kernel), by decide⟩
theorem gl_X7_89 : FLk RX7 89 7 37 := ⟨RX7, TX7, 50, rfl, tbm (i := 1094) (by decide +kernel) (by decide +kernel), by decide⟩
theorem gl_X7_92 : FLk RX7 92 7 38 := ⟨RX7, TX7, 50, rfl, tbm (i := 1095) (by decide +kernel) (by decide +kernel), by decide⟩
theorem gl_X7_95 : FLk RX7 95 7 39 := ⟨RX7, TX7, 50, rfl, tbm (i := 1096) (by decide +kernel) (by decide +kernel), by decide⟩
theorem gl_X7_98 : FLk RX7 98 7 41 := ⟨RX7, TX7, 50, rfl, tbm (i := 1098) (by decide +kernel) (by decide +kernel), by decide⟩
theorem gl_X7_101 : FLk RX7 101 7 42 := ⟨RX7, TX7, 50, rfl, tbm (i := 1099) (by decide +kernel) (by decide +kernel), by decide⟩
theorem gl_X7_104 : FLk RX7 104 7 43 := ⟨RX7, TX7, 50, rfl, tbm (i := 1100) (by decide +kernel) (by decide +kernel), by decide⟩
theorem gl_X7_107 : FLk RX7 107 7 44 := ⟨RX7, TX7, 50, rfl, tbm (i := 1101) (by decide +kernel) (by decide +kernel), by decide⟩
theorem gl_X7_110 : FLk RX7 110 7 45 := ⟨RX7, TX7, 50, rfl, tbm (i := 1102) (by decide +kernel) (by decide +kernel), by decide⟩
theorem gl_X7_113 : FLk RX7 113 7 48 := ⟨RX7, TX7, 50, rfl, tbm (i := 1105) (by decide +kernel) (by decide +kernel), by decide⟩
theorem pf0_0 : ∀ b : Nat, PutF RX0 0 0 (.ref b) := fun _ => ⟨RX0, TX0, 3, .array .int, rfl, rfl, rfl, by decide +kernel, rfl, rfl⟩
theorem pf0_1 : ∀ b : Nat, PutF RX0 0 1 (.ref b) := fun _ => ⟨RX0, TX0, 3, .array .int, rfl, rfl, rfl, by decide +kernel, rfl, rfl⟩
theorem pf1_5 : ∀ b : Nat, PutF RX1 1 5 (.ref b) := fun _ => ⟨RX1, TX1, 15, .array .int, rfl, rfl, rfl, by decide +kernel, rfl, rfl⟩
theorem pf1_6 : ∀ b : Nat, PutF RX1 1 6 (.ref b) := fun _ => ⟨RX1, TX1, 15, .array .int, rfl, rfl, rfl, by decide +kernel, rfl, rfl⟩
theorem pf1_7 : ∀ b : Nat, PutF RX1 1 7 (.ref b) := fun _ => ⟨RX1, TX1, 15, .array .int, rfl, rfl, rfl, by decide +kernel, rfl, rfl⟩
theorem pf1_8 : ∀ b : Nat, PutF RX1 1 8 (.ref b) := fun _ => ⟨RX1, TX1, 15, .array .int, rfl, rfl, rfl, by decide +kernel, rfl, rfl⟩
theorem pf1_9 : ∀ b : Nat, PutF RX1 1 9 (.ref b) := fun _ => ⟨RX1, TX1, 15, .array .int, rfl, rfl, rfl, by decide +kernel, rfl, rfl⟩
theorem pf1_10 : ∀ b : Nat, PutF RX1 1 10 (.ref b) := fun _ => ⟨RX1, TX1, 15, .array .int, rfl, rfl, rfl, by decide +kernel, rfl, rfl⟩
theorem pf1_11 : ∀ b : Nat, PutF RX1 1 11 (.ref b) := fun _ => ⟨RX1, TX1, 15, .array .boolean, rfl, rfl, rfl, by decide +kernel, rfl, rfl⟩
theorem pf1_12 : ∀ b : Nat, PutF RX1 1 12 (.ref b) := fun _ => ⟨RX1, TX1, 15, .array .int, rfl, rfl, rfl, by decide +kernel, rfl, rfl⟩
theorem pf1_13 : ∀ b : Nat, PutF RX1 1 13 (.ref b) := fun _ => ⟨RX1, TX1, 15, .array .int, rfl, rfl, rfl, by decide +kernel, rfl, rfl⟩
theorem pf1_14 : ∀ b : Nat, PutF RX1 1 14 (.ref b) := fun _ => ⟨RX1, TX1, 15, .array .int, rfl, rfl, rfl, by decide +kernel, rfl, rfl⟩
theorem pf2_2 : ∀ b : Nat, PutF RX2 2 2 (.ref b) := fun _ => ⟨RX2, TX2, 13, .array (.object "LineChoice$Stop"), rfl, rfl, rfl, by decide +kernel, rfl, rfl⟩
theorem pf2_10 : ∀ b : Nat, PutF RX2 2 10 (.ref b) := fun _ => ⟨RX2, TX2, 13, .array .int, rfl, rfl, rfl, by decide +kernel, rfl, rfl⟩
theorem pf2_12 : ∀ b : Nat, PutF RX2 2 12 (.ref b) := fun _ => ⟨RX2, TX2, 13, .object "LineChoice$Line", rfl, rfl, rfl, by decide +kernel, rfl, rfl⟩
theorem pf3_0 : ∀ b : Nat, PutF RX3 3 0 (.ref b) := fun _ => ⟨RX3, TX3, 2, .array .long, rfl, rfl, rfl, by decide +kernel, rfl, rfl⟩
theorem pf4_9 : ∀ b : Nat, PutF RX4 4 9 (.ref b) := fun _ => ⟨RX4, TX4, 12, .array .int, rfl, rfl, rfl, by decide +kernel, rfl, rfl⟩
theorem pf4_10 : ∀ b : Nat, PutF RX4 4 10 (.ref b) := fun _ => ⟨RX4, TX4, 12, .array .int, rfl, rfl, rfl, by decide +kernel, rfl, rfl⟩
theorem pf4_11 : ∀ b : Nat, PutF RX4 4 11 (.ref b) := fun _ => ⟨RX4, TX4, 12, .array .int, rfl, rfl, rfl, by decide +kernel, rfl, rfl⟩
theorem pf5_0 : ∀ b : Nat, PutF RX5 5 0 (.ref b) := fun _ => ⟨RX5, TX5, 7, .array .int, rfl, rfl, rfl, by decide +kernel, rfl, rfl⟩
theorem pf6_0 : ∀ b : Nat, PutF RX6 6 0 (.ref b) := fun _ => ⟨RX6, TX6, 4, .object "LineChoice$Text", rfl, rfl, rfl, by decide +kernel, rfl, rfl⟩
theorem pf6_1 : ∀ b : Nat, PutF RX6 6 1 (.ref b) := fun _ => ⟨RX6, TX6, 4, .object "LineChoice$Net", rfl, rfl, rfl, by decide +kernel, rfl, rfl⟩
theorem pf6_2 : ∀ b : Nat, PutF RX6 6 2 (.ref b) := fun _ => ⟨RX6, TX6, 4, .object "LineChoice$Row", rfl, rfl, rfl, by decide +kernel, rfl, rfl⟩
theorem pf6_3 : ∀ b : Nat, PutF RX6 6 3 (.ref b) := fun _ => ⟨RX6, TX6, 4, .object "LineChoice$Journey", rfl, rfl, rfl, by decide +kernel, rfl, rfl⟩
theorem pf7_0 : ∀ b : Nat, PutF RX7 7 0 (.ref b) := fun _ => ⟨RX7, TX7, 50, .array .int, rfl, rfl, rfl, by decide +kernel, rfl, rfl⟩
theorem pf7_1 : ∀ b : Nat, PutF RX7 7 1 (.ref b) := fun _ => ⟨RX7, TX7, 50, .array .int, rfl, rfl, rfl, by decide +kernel, rfl, rfl⟩
theorem pf7_2 : ∀ b : Nat, PutF RX7 7 2 (.ref b) := fun _ => ⟨RX7, TX7, 50, .array .int, rfl, rfl, rfl, by decide +kernel, rfl, rfl⟩
theorem pf7_3 : ∀ b : Nat, PutF RX7 7 3 (.ref b) := fun _ => ⟨RX7, TX7, 50, .array .int, rfl, rfl, rfl, by decide +kernel, rfl, rfl⟩
theorem pf7_4 : ∀ b : Nat, PutF RX7 7 4 (.ref b) := fun _ => ⟨RX7, TX7, 50, .array .long, rfl, rfl, rfl, by decide +kernel, rfl, rfl⟩
theorem pf7_5 : ∀ b : Nat, PutF RX7 7 5 (.ref b) := fun _ => ⟨RX7, TX7, 50, .array .long, rfl, rfl, rfl, by decide +kernel, rfl, rfl⟩
theorem pf7_6 : ∀ b : Nat, PutF RX7 7 6 (.ref b) := fun _ => ⟨RX7, TX7, 50, .array .int, rfl, rfl, rfl, by decide +kernel, rfl, rfl⟩
theorem pf7_7 : ∀ b : Nat, PutF RX7 7 7 (.ref b) := fun _ => ⟨RX7, TX7, 50, .array .int, rfl, rfl, rfl, by decide +kernel, rfl, rfl⟩
theorem pf7_8 : ∀ b : Nat, PutF RX7 7 8 (.ref b) := fun _ => ⟨RX7, TX7, 50, .array .boolean, rfl, rfl, rfl, by decide +kernel, rfl, rfl⟩
theorem pf7_14 : ∀ b : Nat, PutF RX7 7 14 (.ref b) := fun _ => ⟨RX7, TX7, 50, .array .int, rfl, rfl, rfl, by decide +kernel, rfl, rfl⟩
theorem pf7_15 : ∀ b : Nat, PutF RX7 7 15 (.ref b) := fun _ => ⟨RX7, TX7, 50, .array .boolean, rfl, rfl, rfl, by decide +kernel, rfl, rfl⟩
theorem pf7_16 : ∀ b : Nat, PutF RX7 7 16 (.ref b) := fun _ => ⟨RX7, TX7, 50, .array .byte, rfl, rfl, rfl, by decide +kernel, rfl, rfl⟩
theorem pf7_18 : ∀ b : Nat, PutF RX7 7 18 (.ref b) := fun _ => ⟨RX7, TX7, 50, .array .long, rfl, rfl, rfl, by decide +kernel, rfl, rfl⟩
theorem pf7_21 : ∀ b : Nat, PutF RX7 7 21 (.ref b) := fun _ => ⟨RX7, TX7, 50, .array .int, rfl, rfl, rfl, by decide +kernel, rfl, rfl⟩
theorem pf7_22 : ∀ b : Nat, PutF RX7 7 22 (.ref b) := fun _ => ⟨RX7, TX7, 50, .array .int, rfl, rfl, rfl, by decide +kernel, rfl, rfl⟩
theorem pf7_23 : ∀ b : Nat, PutF RX7 7 23 (.ref b) := fun _ => ⟨RX7, TX7, 50, .array .int, rfl, rfl, rfl, by decide +kernel, rfl, rfl⟩
theorem pf7_24 : ∀ b : Nat, PutF RX7 7 24 (.ref b) := fun _ => ⟨RX7, TX7, 50, .array .int, rfl, rfl, rfl, by decide +kernel, rfl, rfl⟩
theorem pf7_29 : ∀ b : Nat, PutF RX7 7 29 (.ref b) := fun _ => ⟨RX7, TX7, 50, .array .long, rfl, rfl, rfl, by decide +kernel, rfl, rfl⟩
theorem pf7_30 : ∀ b : Nat, PutF RX7 7 30 (.ref b) := fun _ => ⟨RX7, TX7, 50, .array .long, rfl, rfl, rfl, by decide +kernel, rfl, rfl⟩
theorem pf7_31 : ∀ b : Nat, PutF RX7 7 31 (.ref b) := fun _ => ⟨RX7, TX7, 50, .array .long, rfl, rfl, rfl, by decide +kernel, rfl, rfl⟩
theorem pf7_32 : ∀ b : Nat, PutF RX7 7 32 (.ref b) := fun _ => ⟨RX7, TX7, 50, .array .boolean, rfl, rfl, rfl, by decide +kernel, rfl, rfl⟩
theorem pf7_33 : ∀ b : Nat, PutF RX7 7 33 (.ref b) := fun _ => ⟨RX7, TX7, 50, .array .int, rfl, rfl, rfl, by decide +kernel, rfl, rfl⟩
theorem pf7_34 : ∀ b : Nat, PutF RX7 7 34 (.ref b) := fun _ => ⟨RX7, TX7, 50, .array .int, rfl, rfl, rfl, by decide +kernel, rfl, rfl⟩
theorem pf7_35 : ∀ b : Nat, PutF RX7 7 35 (.ref b) := fun _ => ⟨RX7, TX7, 50, .array .int, rfl, rfl, rfl, by decide +kernel, rfl, rfl⟩
theorem pf7_38 : ∀ b : Nat, PutF RX7 7 38 (.ref b) := fun _ => ⟨RX7, TX7, 50, .array .boolean, rfl, rfl, rfl, by decide +kernel, rfl, rfl⟩
theorem pf7_39 : ∀ b : Nat, PutF RX7 7 39 (.ref b) := fun _ => ⟨RX7, TX7, 50, .array .int, rfl, rfl, rfl, by decide +kernel, rfl, rfl⟩
theorem pf7_41 : ∀ b : Nat, PutF RX7 7 41 (.ref b) := fun _ => ⟨RX7, TX7, 50, .array .long, rfl, rfl, rfl, by decide +kernel, rfl, rfl⟩
theorem pf7_42 : ∀ b : Nat, PutF RX7 7 42 (.ref b) := fun _ => ⟨RX7, TX7, 50, .array .long, rfl, rfl, rfl, by decide +kernel, rfl, rfl⟩
theorem pf7_43 : ∀ b : Nat, PutF RX7 7 43 (.ref b) := fun _ => ⟨RX7, TX7, 50, .array .long, rfl, rfl, rfl, by decide +kernel, rfl, rfl⟩
theorem pf7_44 : ∀ b : Nat, PutF RX7 7 44 (.ref b) := fun _ => ⟨RX7, TX7, 50, .array .long, rfl, rfl, rfl, by decide +kernel, rfl, rfl⟩
theorem pf7_45 : ∀ b : Nat, PutF RX7 7 45 (.ref b) := fun _ => ⟨RX7, TX7, 50, .array .long, rfl, rfl, rfl, by decide +kernel, rfl, rfl⟩
theorem pf7_48 : ∀ b : Nat, PutF RX7 7 48 (.ref b) := fun _ => ⟨RX7, TX7, 50, .array .int, rfl, rfl, rfl, by decide +kernel, rfl, rfl⟩
