
/-! ===== constructors: a world that grows ===== -/
def GW (D : va_G) (ca : Nat → ClassId) (B n : Nat) (σ : Mem) (H : Heap) : Prop := va_P D vwCl (wl B ca σ n) H ∧ H.size = B + n ∧ ∀ k, n ≤ k → ∀ j, σ k j = 0
def nestG : List Cond := [.methodLinkNest RX6 9 yX5_init RX6, .methodLinkNest RX5 15 yX6_newLines RX6, .methodLinkNest RX6 353 yX1_init RX6, .methodLinkNest RX2 9 yX6_newLines RX6, .methodLinkNest RX2 35 yX1_init RX6, .methodLinkNest RX2 40 yX4_init RX6, .methodLinkNest RX6 25 yX3_init RX6, .methodLinkNest RX6 32 yX0_init RX6, .methodLinkNest RX2 70 yX6_bit RX6, .methodLinkNest RX4 34 yX6_parts RX6, .methodLinkNest RX2 160 yX6_parts RX6, .methodLinkNest RX1 82 yX6_parts RX6]
def NsG (U : State) : Prop := (∀ w ∈ nestG, va_Nw w U) ∧ va_AO RX1 U ∧ va_AO RX4 U
theorem wl_succ {B : Nat} {ca : Nat → ClassId} {σ : Mem} {n : Nat} : wl B ca σ (n + 1) = wl B ca σ n ++ [(B + n, cellR B ca (σ n) (kd n))] := by
  simp [wl, List.range_succ]
theorem NsG.warm {s U : State} (hW : s.WarmedH U.vm) (h : NsG s) : NsG U := by
  refine ⟨fun w hw => ?_, va_AO.moved hW.alike h.2.1, va_AO.moved hW.alike h.2.2⟩
  have h1 := h.1 w hw
  simp only [nestG, List.mem_cons, List.not_mem_nil, or_false] at hw
  rcases hw with rfl | rfl | rfl | rfl | rfl | rfl | rfl | rfl | rfl | rfl | rfl | rfl <;> exact va_Nw.warmM hW h1
def OkG (cc : ByteArray) (own : String) (nL : Nat) (p : Program) (s : State) (m : MethodId) (args : Array Value) (c : Code) (D : va_G) (ca : Nat → ClassId) : Prop :=
  p.tables.exec = Jvm.exec ∧ c.code = cc ∧ c.maxLocals = nL ∧ s.vm.findClass own = some m.cls ∧ (∀ w ∈ TB, w.before args s = true) ∧ va_K D vwCl (tyL ca) s ∧ NsG s
def Sig (cc : ByteArray) (own : String) (nL : Nat) (R : Room) (B : Nat) (X : Ctx) (n cs sl : Nat) (σ : Mem) (pc : Nat) (lv : List (Nat × Value)) (st : List Value) : Prop :=
  match X with
  | (p, l, e, s, m, args, below, meth, c, D, ca, _, _, Z) =>
    OkG cc own nL p s m args c D ca → ∀ (H : Heap) (locs : List Loc) (ls : Array Slot), GW D ca B n σ H → va_S (fun a => B ≤ a) s.heap H locs → lv_has ls nL lv →
      W p l e R s m args below meth c H locs cs sl (Z 0 (fun _ _ => 0)) (F0 m pc ls st)
def InitX (X : Ctx) : Prop := match X with
  | (_, _, _, _, _, _, _, meth, _, _, _, _, _, _) => meth.name = "<init>"
section GROW
variable {cc : ByteArray} {own : String} {nL : Nat} {R : Room} {B : Nat} {X : Ctx} {n cs sl : Nat} {σ : Mem} {pc : Nat} {lv lv' : List (Nat × Value)} {st : List Value}

theorem g_iconst {x : Int} (hd : decode cc pc = .ok (.iconst x, 1)) (k : Sig cc own nL R B X n cs sl σ (pc + 1) lv (iv x :: st)) : Sig cc own nL R B X n cs sl σ pc lv (st) := by
  obtain ⟨p, l, e, s, m, args, below, meth, c, D, ca, cells, slots, Z⟩ := X
  intro ok H locs ls hF hS hl
  exact lv_iconst ok.1 ok.2.1 hd rfl (by exact k ok H locs ls hF hS hl)
theorem g_bipush {x : Int} (hd : decode cc pc = .ok (.bipush x, 2)) (hv : (Int8.ofInt x).toInt32 = Int32.ofInt x) (k : Sig cc own nL R B X n cs sl σ (pc + 2) lv (iv x :: st)) : Sig cc own nL R B X n cs sl σ pc lv (st) := by
  obtain ⟨p, l, e, s, m, args, below, meth, c, D, ca, cells, slots, Z⟩ := X
  intro ok H locs ls hF hS hl
  exact lv_bipush ok.1 ok.2.1 hd hv (by exact k ok H locs ls hF hS hl)
theorem g_sipush {x : Int} (hd : decode cc pc = .ok (.sipush x, 3)) (hv : (Int16.ofInt x).toInt32 = Int32.ofInt x) (k : Sig cc own nL R B X n cs sl σ (pc + 3) lv (iv x :: st)) : Sig cc own nL R B X n cs sl σ pc lv (st) := by
  obtain ⟨p, l, e, s, m, args, below, meth, c, D, ca, cells, slots, Z⟩ := X
  intro ok H locs ls hF hS hl
  exact lv_sipush ok.1 ok.2.1 hd hv (by exact k ok H locs ls hF hS hl)
theorem g_iload_n (j : Nat) {f : Fin 4} {i : Nat} {x : Int} (hd : decode cc pc = .ok (.iload_n f, 1)) (hi : (f : Nat) = i) (hj : lv[j]? = some (i, iv x)) (k : Sig cc own nL R B X n cs sl σ (pc + 1) lv (iv x :: st)) : Sig cc own nL R B X n cs sl σ pc lv (st) := by
  obtain ⟨p, l, e, s, m, args, below, meth, c, D, ca, cells, slots, Z⟩ := X
  intro ok H locs ls hF hS hl
  exact lv_iload_n ok.1 ok.2.1 hd hi (lv_at hl j hj) (by exact k ok H locs ls hF hS hl)
theorem g_aload_n (j : Nat) {f : Fin 4} {i : Nat} {x : Nat} (hd : decode cc pc = .ok (.aload_n f, 1)) (hi : (f : Nat) = i) (hj : lv[j]? = some (i, .ref x)) (k : Sig cc own nL R B X n cs sl σ (pc + 1) lv (.ref x :: st)) : Sig cc own nL R B X n cs sl σ pc lv (st) := by
  obtain ⟨p, l, e, s, m, args, below, meth, c, D, ca, cells, slots, Z⟩ := X
  intro ok H locs ls hF hS hl
  exact lv_aload_n ok.1 ok.2.1 hd hi (lv_at hl j hj) (by exact k ok H locs ls hF hS hl)
theorem g_istore_n {f : Fin 4} {i : Nat} {x : Int} (hd : decode cc pc = .ok (.istore_n f, 1)) (hi : (f : Nat) = i) (hn : i < nL) (hl2 : (i, (iv x : Value)) :: lv.filter (fun q => !(q.1 == i) && !(q.1 + 1 == i && q.2.category == 2)) = lv') (k : Sig cc own nL R B X n cs sl σ (pc + 1) lv' st) : Sig cc own nL R B X n cs sl σ pc lv (iv x :: st) := by
  obtain ⟨p, l, e, s, m, args, below, meth, c, D, ca, cells, slots, Z⟩ := X
  intro ok H locs ls hF hS hl
  exact lv_istore_n ok.1 ok.2.1 hd hi hl hn hl2 (fun ls hl => by exact k ok H locs ls hF hS hl)
theorem g_astore_n {f : Fin 4} {i : Nat} {x : Nat} (hd : decode cc pc = .ok (.astore_n f, 1)) (hi : (f : Nat) = i) (hn : i < nL) (hl2 : (i, (.ref x : Value)) :: lv.filter (fun q => !(q.1 == i) && !(q.1 + 1 == i && q.2.category == 2)) = lv') (k : Sig cc own nL R B X n cs sl σ (pc + 1) lv' st) : Sig cc own nL R B X n cs sl σ pc lv (.ref x :: st) := by
  obtain ⟨p, l, e, s, m, args, below, meth, c, D, ca, cells, slots, Z⟩ := X
  intro ok H locs ls hF hS hl
  exact lv_astore_n ok.1 ok.2.1 hd hi hl hn hl2 (fun ls hl => by exact k ok H locs ls hF hS hl)
theorem g_iinc (j : Nat) {i : Nat} {a x : Int} (hd : decode cc pc = .ok (.iinc i a, 3)) (hj : lv[j]? = some (i, iv x)) (hn : i < nL) (hl2 : (i, (iv (x + a) : Value)) :: lv.filter (fun q => !(q.1 == i) && !(q.1 + 1 == i && q.2.category == 2)) = lv') (k : Sig cc own nL R B X n cs sl σ (pc + 3) lv' st) : Sig cc own nL R B X n cs sl σ pc lv st := by
  obtain ⟨p, l, e, s, m, args, below, meth, c, D, ca, cells, slots, Z⟩ := X
  intro ok H locs ls hF hS hl
  exact lv_iinc ok.1 ok.2.1 hd hl hj (Int32.ofInt_add x a).symm hn hl2 (fun ls hl => by exact k ok H locs ls hF hS hl)
theorem g_sub (ks : List Nat) (h : lv_pick lv ks = lv') (k : Sig cc own nL R B X n cs sl σ pc lv' st) : Sig cc own nL R B X n cs sl σ pc lv st := by
  obtain ⟨p, l, e, s, m, args, below, meth, c, D, ca, cells, slots, Z⟩ := X
  intro ok H locs ls hF hS hl
  exact k ok H locs ls hF hS (lv_sub hl ks h)
theorem g_dup {v : Value} (hd : decode cc pc = .ok (.dup, 1)) (hv : v.category = 1) (k : Sig cc own nL R B X n cs sl σ (pc + 1) lv (v :: v :: st)) : Sig cc own nL R B X n cs sl σ pc lv (v :: st) := by
  obtain ⟨p, l, e, s, m, args, below, meth, c, D, ca, cells, slots, Z⟩ := X
  intro ok H locs ls hF hS hl
  exact lv_dup ok.1 ok.2.1 hd hv (by exact k ok H locs ls hF hS hl)
theorem g_goto {off : Int} {tgt : Nat} (hd : decode cc pc = .ok (.goto off, 3)) (ht : (pc : Int) + off = (tgt : Int)) (k : Sig cc own nL R B X n cs sl σ tgt lv st) : Sig cc own nL R B X n cs sl σ pc lv (st) := by
  obtain ⟨p, l, e, s, m, args, below, meth, c, D, ca, cells, slots, Z⟩ := X
  intro ok H locs ls hF hS hl
  exact lv_goto ok.1 ok.2.1 hd ht (by exact k ok H locs ls hF hS hl)
theorem g_icmp_ge {a b off : Int} {tgt : Nat} (hd : decode cc pc = .ok (.if_icmp .ge off, 3)) (ht : (pc : Int) + off = (tgt : Int)) (kt : w32 b ≤ w32 a → Sig cc own nL R B X n cs sl σ tgt lv st) (kf : ¬ w32 b ≤ w32 a → Sig cc own nL R B X n cs sl σ (pc + 3) lv st) : Sig cc own nL R B X n cs sl σ pc lv (iv b :: iv a :: st) := by
  obtain ⟨p, l, e, s, m, args, below, meth, c, D, ca, cells, slots, Z⟩ := X
  intro ok H locs ls hF hS hl
  exact lv_icmp_ge ok.1 ok.2.1 hd ht (fun h => kt (e32_le.mp h) ok H locs ls hF hS hl) (fun h => kf (fun g => h (e32_le.mpr g)) ok H locs ls hF hS hl)
theorem g_widen {cs2 sl2 : Nat} (h1 : cs ≤ cs2) (h2 : sl ≤ sl2) (k : Sig cc own nL R B X n cs2 sl2 σ pc lv st) : Sig cc own nL R B X n cs sl σ pc lv st := by
  obtain ⟨p, l, e, s, m, args, below, meth, c, D, ca, cells, slots, Z⟩ := X
  intro ok H locs ls hF hS hl
  exact W.widen h1 h2 (k ok H locs ls hF hS hl)
theorem g_objinit {idx x : Nat} (hd : decode cc pc = .ok (.invokespecial idx, 3)) (hlk : Cond.methodLink own idx objectInit ∈ TB) (h2 : Cond.instanceMethod objectInit ∈ TB) (h3 : Cond.code objectInit ⟨#[0xb1]⟩ 1 none ∈ TB) (hR : 1 ≤ R.frames ∧ 20 ≤ R.locals) (hw : (st.map fun v => v.category).sum ≤ 8) (k : Sig cc own nL R B X n cs sl σ (pc + 3) lv st) : Sig cc own nL R B X n cs sl σ pc lv (.ref x :: st) := by
  obtain ⟨p, l, e, s, m, args, below, meth, c, D, ca, cells, slots, Z⟩ := X
  intro ok H locs ls hF hS hl
  exact W.objInit ok.1 ok.2.1 ok.2.2.2.1 (ok.2.2.2.2.1 _ hlk) (ok.2.2.2.2.1 _ h2) (ok.2.2.2.2.1 _ h3) rfl (by rw [ok.2.2.1]; exact hl.1) rfl hd hR.1 (by have := lv_room (m := m) (pc := pc) (ls := ls) (rest := .ref x :: st) hw; omega) (by exact k ok H locs ls hF hS hl)
theorem GW.put {D : va_G} {ca : Nat → ClassId} {H1 : Heap} {k j : Nat} {v : Int} (hP : va_P D vwCl (wl B ca (mset σ k j v) n) H1) (hz : H1.size = B + n) (h : ∀ k, n ≤ k → ∀ j, σ k j = 0) (hk : k < n) : GW D ca B n (mset σ k j v) H1 :=
  ⟨hP, hz, fun a ha b => by rw [mset_place _ _ _ (by omega)]; exact h a ha b⟩
theorem va_S.sz {A : Nat → Prop} {H0 H : Heap} {locs : List Loc} (_ : va_S A H0 H locs) : True := trivial

theorem lay_of {ci j : Nat} {p : Program} {s : State} {m : MethodId} {args : Array Value} {c : Code} {D : va_G} {ca : Nat → ClassId} {C : String} {T : u_T} {N : Nat} (ok : OkG cc own nL p s m args c D ca) (hly : LayOk ci) (hc : vwCl[ci]? = some (C, T, N)) : (∀ w ∈ u_ws C T N, w ∈ TB) ∧ N = (fty ci).length ∧ ci < 8 := by
  obtain ⟨C', T', N', h1, h2, h3, h4⟩ := hly
  have he : (C', T', N') = (C, T, N) := Option.some.inj (h1.symm.trans hc)
  cases he
  exact ⟨h2, h3, h4⟩
/-- a field that is not final -/
theorem g_putn {ci j t idx k N : Nat} {v : Int} {C : String} {T : u_T} (hd : decode cc pc = .ok (.putfield idx, 3)) (hly : LayOk ci) (hty : TyOk ci) (hlk : FLk own idx ci j) (hk : kd k = ci) (hkn : k < n) (ht : (fty ci)[j]? = some t) (hp : PutOk ci j (fv B t v)) (kk : Sig cc own nL R B X n cs sl (mset σ k j v) (pc + 3) lv st) : Sig cc own nL R B X n cs sl σ pc lv (fv B t v :: rv B k :: st) := by
  obtain ⟨p, l, e, s, m, args, below, meth, c, D, ca, cells, slots, Z⟩ := X
  intro ok H locs ls hF hS hl
  obtain ⟨C, T, N, h1, h2, h3, h4⟩ := hly
  obtain ⟨C', T', N', g1, g2, g3⟩ := hlk
  have he : (C, T, N) = (C', T', N') := Option.some.inj (h1.symm.trans g1)
  cases he
  obtain ⟨C', T', N', ty0, f1, f2, f3⟩ := hty
  have he : (C, T, N) = (C', T', N') := Option.some.inj (h1.symm.trans f1)
  cases he
  obtain ⟨C', T', N', ty, e1, e2, e3, e4, e5⟩ := hp
  have he : (C, T, N) = (C', T', N') := Option.some.inj (h1.symm.trans e1)
  cases he
  have hcell : (wl B ca σ n)[k]? = some (B + k, .inr (ci, flds B (σ k) (fty ci))) := by rw [wl_at hkn hk, cellR_obj h4]
  have hap := va_apart (own := own) ok.2.2.2.2.1 h2 ty0 f2 f3 ok.2.2.2.2.2.1 h1
  obtain ⟨r, hr1, cell, q1, q2, q3, q4⟩ := hF.1 k _ hcell
  have hr : r = (C, T, N) := Option.some.inj (hr1.symm.trans h1)
  subst hr
  obtain ⟨hSl, hfc, kC, hkC, hkind⟩ := ok.2.2.2.2.2.1.1 ci _ h1
  obtain ⟨cf, kf, fi, f, hi, hsl⟩ := hSl j g3
  have hlay := ok.2.2.2.2.1 _ (h2 _ (u_in_lay g3))
  unfold u_lay at hlay
  rw [if_neg (by rw [e2]; decide)] at hlay
  have hst := (u_facts hfc hkC (u_lays ok.2.2.2.2.1 h2 g3) hi).1
  have h6 := u_store hfc hkC hkind hlay hi e3 e4 e5
  have hlen : j < (flds B (σ k) (fty ci)).length := by rw [flds_len, ← h3]; exact g3
  refine W.putK ok.1 ok.2.1 (f := f) ⟨ok.2.2.2.1, ok.2.2.2.2.1 _ g2, ⟨_, _, _, hi⟩, hst⟩ (by rw [q2]; exact h6) q1 q3 (by rw [hsl]; exact k2_hasslot (q4 j g3)) rfl rfl hd fun H' y1 y2 y3 => ?_
  rw [hsl] at y1 ⊢
  have hP := hF.1.set (e := .inr (ci, (flds B (σ k) (fty ci)).set j (fv B t v))) wl_D hcell ⟨_, h1, t_OB.to (V := updV (vp_V (flds B (σ k) (fty ci))) j (fv B t v)) ⟨_, y1, q2, q3, t_set q4 hap g3 (fv B t v)⟩ (fun b _ => vp_updV_set hlen (fv B t v) b)⟩ y3
  rw [flds_set ht, wl_set (j := j) (v := v) hkn hk (by rw [cellR_obj h4])] at hP
  exact kk ok H' _ ls (GW.put hP (by rw [y2]; exact hF.2.1) hF.2.2 hkn) (hS.put y2 y3 (Nat.le_add_right _ _)) hl
/-- the field is final: declared by the constructor's own class -/
def PutF (own : String) (ci j : Nat) (v : Value) : Prop := ∃ C T N, ∃ ty : FieldType, vwCl[ci]? = some (C, T, N) ∧ (T j).2.2.2 = true ∧ (T j).1 = own ∧ parseFieldDescriptor (T j).2.2.1 = some ty ∧ narrow ty v = v ∧ fits ty v = true
theorem g_putf {ci j t idx k : Nat} {v : Int} (hX : InitX X) (hd : decode cc pc = .ok (.putfield idx, 3)) (hly : LayOk ci) (hty : TyOk ci) (hlk : FLk own idx ci j) (hk : kd k = ci) (hkn : k < n) (ht : (fty ci)[j]? = some t) (hp : PutF own ci j (fv B t v)) (kk : Sig cc own nL R B X n cs sl (mset σ k j v) (pc + 3) lv st) : Sig cc own nL R B X n cs sl σ pc lv (fv B t v :: rv B k :: st) := by
  obtain ⟨p, l, e, s, m, args, below, meth, c, D, ca, cells, slots, Z⟩ := X
  intro ok H locs ls hF hS hl
  obtain ⟨C, T, N, h1, h2, h3, h4⟩ := hly
  obtain ⟨C', T', N', g1, g2, g3⟩ := hlk
  have he : (C, T, N) = (C', T', N') := Option.some.inj (h1.symm.trans g1)
  cases he
  obtain ⟨C', T', N', ty0, f1, f2, f3⟩ := hty
  have he : (C, T, N) = (C', T', N') := Option.some.inj (h1.symm.trans f1)
  cases he
  obtain ⟨C', T', N', ty, e1, e2, edecl, e3, e4, e5⟩ := hp
  have he : (C, T, N) = (C', T', N') := Option.some.inj (h1.symm.trans e1)
  cases he
  have hcell : (wl B ca σ n)[k]? = some (B + k, .inr (ci, flds B (σ k) (fty ci))) := by rw [wl_at hkn hk, cellR_obj h4]
  have hap := va_apart (own := own) ok.2.2.2.2.1 h2 ty0 f2 f3 ok.2.2.2.2.2.1 h1
  obtain ⟨r, hr1, cell, q1, q2, q3, q4⟩ := hF.1 k _ hcell
  have hr : r = (C, T, N) := Option.some.inj (hr1.symm.trans h1)
  subst hr
  obtain ⟨hSl, hfc, kC, hkC, hkind⟩ := ok.2.2.2.2.2.1.1 ci _ h1
  obtain ⟨cf, kf, fi, f, hi, hsl⟩ := hSl j g3
  have hlay := ok.2.2.2.2.1 _ (h2 _ (u_in_lay g3))
  unfold u_lay at hlay
  rw [if_pos e2] at hlay
  have hst := (u_facts hfc hkC (u_lays ok.2.2.2.2.1 h2 g3) hi).1
  have hcf : m.cls = cf := by
    obtain ⟨_, _, c', _, _, _, -, -, hf', -, -, -, hown2, -⟩ := Cond.laysFinal_spec hlay
    have e1 : c' = cf := by have := hi.symm.trans hf'; simp at this; exact this.1.symm
    rw [edecl] at hown2
    rw [← e1]; exact Option.some.inj (ok.2.2.2.1.symm.trans hown2)
  have h6 := u_fits hfc hkC hkind (Or.inr hlay) hi e3 e4 e5
  have hlen : j < (flds B (σ k) (fty ci)).length := by rw [flds_len, ← h3]; exact g3
  refine W.putFinK ok.1 ok.2.1 ok.2.2.2.1 (ok.2.2.2.2.1 _ g2) hi hst hcf hX (by rw [q2]; exact h6) q1 q3 (by rw [hsl]; exact k2_hasslot (q4 j g3)) rfl rfl hd fun H' y1 y2 y3 => ?_
  rw [hsl] at y1 ⊢
  have hP := hF.1.set (e := .inr (ci, (flds B (σ k) (fty ci)).set j (fv B t v))) wl_D hcell ⟨_, h1, t_OB.to (V := updV (vp_V (flds B (σ k) (fty ci))) j (fv B t v)) ⟨_, y1, q2, q3, t_set q4 hap g3 (fv B t v)⟩ (fun b _ => vp_updV_set hlen (fv B t v) b)⟩ y3
  rw [flds_set ht, wl_set (j := j) (v := v) hkn hk (by rw [cellR_obj h4])] at hP
  exact kk ok H' _ ls (GW.put hP (by rw [y2]; exact hF.2.1) hF.2.2 hkn) (hS.put y2 y3 (Nat.le_add_right _ _)) hl
theorem fv_ref (B k : Nat) : fv B 2 ((k + 1 : Nat) : Int) = rv B k := by
  unfold fv
  rw [if_neg (by decide), if_neg (by decide), rfo_pos (by omega), pl_succ]
/-- a reference into a final field -/
theorem g_putrf {ci j idx k a : Nat} (hX : InitX X) (hd : decode cc pc = .ok (.putfield idx, 3)) (hly : LayOk ci) (hty : TyOk ci) (hlk : FLk own idx ci j) (hk : kd k = ci) (hkn : k < n) (ht : (fty ci)[j]? = some 2) (hp : ∀ b : Nat, PutF own ci j (.ref b)) (kk : Sig cc own nL R B X n cs sl (mset σ k j ((a + 1 : Nat) : Int)) (pc + 3) lv st) : Sig cc own nL R B X n cs sl σ pc lv (rv B a :: rv B k :: st) := by
  rw [← fv_ref]
  exact g_putf hX hd hly hty hlk hk hkn ht (by rw [fv_ref]; exact hp _) kk
theorem g_putrn {ci j idx k a : Nat} (hd : decode cc pc = .ok (.putfield idx, 3)) (hly : LayOk ci) (hty : TyOk ci) (hlk : FLk own idx ci j) (hk : kd k = ci) (hkn : k < n) (ht : (fty ci)[j]? = some 2) (hp : ∀ b : Nat, PutOk ci j (.ref b)) (kk : Sig cc own nL R B X n cs sl (mset σ k j ((a + 1 : Nat) : Int)) (pc + 3) lv st) : Sig cc own nL R B X n cs sl σ pc lv (rv B a :: rv B k :: st) := by
  rw [← fv_ref]
  exact g_putn (C := "") (T := TX0) (N := 0) hd hly hty hlk hk hkn ht (by rw [fv_ref]; exact hp _) kk
theorem g_puti {ci j idx k : Nat} {v : Int} (hd : decode cc pc = .ok (.putfield idx, 3)) (hly : LayOk ci) (hty : TyOk ci) (hlk : FLk own idx ci j) (hk : kd k = ci) (hkn : k < n) (ht : (fty ci)[j]? = some 0) (hp : ∀ v : Int, PutOk ci j (iv v)) (kk : Sig cc own nL R B X n cs sl (mset σ k j v) (pc + 3) lv st) : Sig cc own nL R B X n cs sl σ pc lv (iv v :: rv B k :: st) :=
  g_putn (C := "") (T := TX0) (N := 0) (t := 0) hd hly hty hlk hk hkn ht (hp v) kk
/-- the world with one place more -/
theorem GW.grow {D : va_G} {ca : Nat → ClassId} {H H1 : Heap} (hF : GW D ca B n σ H) (hz : H1.size = H.size + 1) (ho : ∀ q : Nat, q < H.size → H1[q]? = H[q]?) (he : va_at D vwCl (B + n, cellR B ca (σ n) (kd n)) H1) : GW D ca B (n + 1) σ H1 := by
  refine ⟨?_, by rw [hz, hF.2.1]; omega, fun k hk j => hF.2.2 k (by omega) j⟩
  rw [wl_succ]
  refine (hF.1.kept (fun k x hx => ho x.1 ((hF.1 k x hx).lt))).app (fun k x hx => ?_)
  have hz : k < 1 := (List.getElem?_eq_some_iff.mp hx).1
  rw [show k = 0 by omega] at hx
  cases hx
  exact he
theorem S_grow {s : State} {H H1 : Heap} {locs : List Loc} (hS : va_S (fun a => B ≤ a) s.heap H locs) (hz : H1.size = H.size + 1) (ho : ∀ q : Nat, q < H.size → H1[q]? = H[q]?) : va_S (fun a => B ≤ a) s.heap H1 locs :=
  ⟨Nat.le_trans hS.1 (by omega), fun x h1 h2 => (ho x (Nat.lt_of_lt_of_le h1 hS.1)).trans (hS.2.1 x h1 h2), hS.2.2⟩
/-- every field of a new object of class ci is 0 or null -/
def NewOk (ci : Nat) : Prop := ∃ C T N, ∃ ty0 : Nat → FieldType, vwCl[ci]? = some (C, T, N) ∧ (∀ k, k < N → parseFieldDescriptor (T k).2.2.1 = some (ty0 k)) ∧ (∀ B j, j < N → defaultValue (ty0 j) = vp_V (flds B (fun _ => 0) (fty ci)) j) ∧ Cond.instantiable C N ∈ TB ∧ Cond.initialized C ∈ TB ∧ N = (fty ci).length
theorem g_new {ci idx N : Nat} {C : String} {T : u_T} (hd : decode cc pc = .ok (.new idx, 3)) (hly : LayOk ci) (hnw : NewOk ci) (hc : vwCl[ci]? = some (C, T, N)) (hcl : Cond.classLink own idx C ∈ TB) (hk : kd n = ci) (hR : cs + 1 ≤ R.cells ∧ sl + N ≤ R.slots) (kk : Sig cc own nL R B X (n + 1) (cs + 1) (sl + N) σ (pc + 3) lv (rv B n :: st)) : Sig cc own nL R B X n cs sl σ pc lv st := by
  obtain ⟨p, l, e, s, m, args, below, meth, c, D, ca, cells, slots, Z⟩ := X
  intro ok H locs ls hF hS hl
  obtain ⟨C', T', N', ty0, g1, g2, g3, g4, g5, g6⟩ := hnw
  have he : (C, T, N) = (C', T', N') := Option.some.inj (hc.symm.trans g1)
  cases he
  obtain ⟨h2, h3, h4⟩ := lay_of (j := 0) ok hly hc
  have hKn := ok.2.2.2.2.2.1.1 ci _ hc
  refine W.newcK ok.1 ok.2.1 ok.2.2.2.1 (ok.2.2.2.2.1 _ hcl) (ok.2.2.2.2.1 _ g4) (ok.2.2.2.2.1 _ g5) rfl hd hR.1 hR.2 hKn.2.1 hF.2.1 fun H1 kC hkC e1 z1 o1 => ?_
  have hz0 : σ n = fun _ => 0 := funext fun j => hF.2.2 n (Nat.le_refl _) j
  refine kk ok H1 locs ls (hF.grow (by rw [z1, hF.2.1]) (fun q hq => o1 q (by rw [← hF.2.1]; exact hq)) ?_) (S_grow hS (by rw [z1, hF.2.1]) (fun q hq => o1 q (by rw [← hF.2.1]; exact hq))) hl
  rw [hk, cellR_obj h4, hz0]
  exact ⟨_, hc, (u_born ty0 ok.2.2.2.2.1 h2 hKn hkC e1 g2).to (g3 B)⟩


theorem g_newa_int {a : Int} (N : Nat) (hd : decode cc pc = .ok (.newarray .int, 2)) (hw : Cond.arrayClass .int ∈ TB) (hk : kd n = 1000 * 2 + N) (hn : N < 1000) (h0 : ¬ Int32.ofInt a < 0) (hN : (Int32.ofInt a).toNatClampNeg = N) (hR : cs + 1 ≤ R.cells ∧ sl + N ≤ R.slots) (kk : Sig cc own nL R B X (n + 1) (cs + 1) (sl + N) σ (pc + 2) lv (rv B n :: st)) : Sig cc own nL R B X n cs sl σ pc lv (iv a :: st) := by
  obtain ⟨p, l, e, s, m, args, below, meth, c, D, ca, cells, slots, Z⟩ := X
  intro ok H locs ls hF hS hl
  refine va_newaK (atype := .int) ok.1 ok.2.1 (ok.2.2.2.2.1 _ hw) rfl hd rfl h0 hN (Nat.le_trans (Nat.mul_le_mul_left N (show componentBytes .int ≤ 8 by decide)) (show N * 8 ≤ 536870912 by omega)) hR.1 hR.2 hF.2.1 fun H1 cA e1 z1 o1 hAr hNm => ?_
  have hca : cA = ca 2 := Option.some.inj (hNm.symm.trans (ok.2.2.2.2.2.1.2 1 _ rfl).2)
  have hz0 : σ n = fun _ => 0 := funext fun j => hF.2.2 n (Nat.le_refl _) j
  refine kk ok H1 locs ls (hF.grow (by rw [z1, hF.2.1]) (fun q hq => o1 q (by rw [← hF.2.1]; exact hq)) ?_) (S_grow hS (by rw [z1, hF.2.1]) (fun q hq => o1 q (by rw [← hF.2.1]; exact hq))) hl
  rw [hk, cell_i (t := 2) (by decide) hn, hz0, ← hca]
  exact e1

theorem g_newa_boolean {a : Int} (N : Nat) (hd : decode cc pc = .ok (.newarray .boolean, 2)) (hw : Cond.arrayClass .boolean ∈ TB) (hk : kd n = 1000 * 4 + N) (hn : N < 1000) (h0 : ¬ Int32.ofInt a < 0) (hN : (Int32.ofInt a).toNatClampNeg = N) (hR : cs + 1 ≤ R.cells ∧ sl + N ≤ R.slots) (kk : Sig cc own nL R B X (n + 1) (cs + 1) (sl + N) σ (pc + 2) lv (rv B n :: st)) : Sig cc own nL R B X n cs sl σ pc lv (iv a :: st) := by
  obtain ⟨p, l, e, s, m, args, below, meth, c, D, ca, cells, slots, Z⟩ := X
  intro ok H locs ls hF hS hl
  refine va_newaK (atype := .boolean) ok.1 ok.2.1 (ok.2.2.2.2.1 _ hw) rfl hd rfl h0 hN (Nat.le_trans (Nat.mul_le_mul_left N (show componentBytes .boolean ≤ 8 by decide)) (show N * 8 ≤ 536870912 by omega)) hR.1 hR.2 hF.2.1 fun H1 cA e1 z1 o1 hAr hNm => ?_
  have hca : cA = ca 4 := Option.some.inj (hNm.symm.trans (ok.2.2.2.2.2.1.2 3 _ rfl).2)
  have hz0 : σ n = fun _ => 0 := funext fun j => hF.2.2 n (Nat.le_refl _) j
  refine kk ok H1 locs ls (hF.grow (by rw [z1, hF.2.1]) (fun q hq => o1 q (by rw [← hF.2.1]; exact hq)) ?_) (S_grow hS (by rw [z1, hF.2.1]) (fun q hq => o1 q (by rw [← hF.2.1]; exact hq))) hl
  rw [hk, cell_i (t := 4) (by decide) hn, hz0, ← hca]
  exact e1

theorem g_newa_byte {a : Int} (N : Nat) (hd : decode cc pc = .ok (.newarray .byte, 2)) (hw : Cond.arrayClass .byte ∈ TB) (hk : kd n = 1000 * 1 + N) (hn : N < 1000) (h0 : ¬ Int32.ofInt a < 0) (hN : (Int32.ofInt a).toNatClampNeg = N) (hR : cs + 1 ≤ R.cells ∧ sl + N ≤ R.slots) (kk : Sig cc own nL R B X (n + 1) (cs + 1) (sl + N) σ (pc + 2) lv (rv B n :: st)) : Sig cc own nL R B X n cs sl σ pc lv (iv a :: st) := by
  obtain ⟨p, l, e, s, m, args, below, meth, c, D, ca, cells, slots, Z⟩ := X
  intro ok H locs ls hF hS hl
  refine va_newaK (atype := .byte) ok.1 ok.2.1 (ok.2.2.2.2.1 _ hw) rfl hd rfl h0 hN (Nat.le_trans (Nat.mul_le_mul_left N (show componentBytes .byte ≤ 8 by decide)) (show N * 8 ≤ 536870912 by omega)) hR.1 hR.2 hF.2.1 fun H1 cA e1 z1 o1 hAr hNm => ?_
  have hca : cA = ca 1 := Option.some.inj (hNm.symm.trans (ok.2.2.2.2.2.1.2 0 _ rfl).2)
  have hz0 : σ n = fun _ => 0 := funext fun j => hF.2.2 n (Nat.le_refl _) j
  refine kk ok H1 locs ls (hF.grow (by rw [z1, hF.2.1]) (fun q hq => o1 q (by rw [← hF.2.1]; exact hq)) ?_) (S_grow hS (by rw [z1, hF.2.1]) (fun q hq => o1 q (by rw [← hF.2.1]; exact hq))) hl
  rw [hk, cell_i (t := 1) (by decide) hn, hz0, ← hca]
  exact e1

theorem g_newa_long {a : Int} (N : Nat) (hd : decode cc pc = .ok (.newarray .long, 2)) (hw : Cond.arrayClass .long ∈ TB) (hk : kd n = 1000 * 3 + N) (hn : N < 1000) (h0 : ¬ Int32.ofInt a < 0) (hN : (Int32.ofInt a).toNatClampNeg = N) (hR : cs + 1 ≤ R.cells ∧ sl + N ≤ R.slots) (kk : Sig cc own nL R B X (n + 1) (cs + 1) (sl + N) σ (pc + 2) lv (rv B n :: st)) : Sig cc own nL R B X n cs sl σ pc lv (iv a :: st) := by
  obtain ⟨p, l, e, s, m, args, below, meth, c, D, ca, cells, slots, Z⟩ := X
  intro ok H locs ls hF hS hl
  refine va_newaK (atype := .long) ok.1 ok.2.1 (ok.2.2.2.2.1 _ hw) rfl hd rfl h0 hN (Nat.le_trans (Nat.mul_le_mul_left N (show componentBytes .long ≤ 8 by decide)) (show N * 8 ≤ 536870912 by omega)) hR.1 hR.2 hF.2.1 fun H1 cA e1 z1 o1 hAr hNm => ?_
  have hca : cA = ca 3 := Option.some.inj (hNm.symm.trans (ok.2.2.2.2.2.1.2 2 _ rfl).2)
  have hz0 : σ n = fun _ => 0 := funext fun j => hF.2.2 n (Nat.le_refl _) j
  refine kk ok H1 locs ls (hF.grow (by rw [z1, hF.2.1]) (fun q hq => o1 q (by rw [← hF.2.1]; exact hq)) ?_) (S_grow hS (by rw [z1, hF.2.1]) (fun q hq => o1 q (by rw [← hF.2.1]; exact hq))) hl
  rw [hk, cell_l hn, hz0, ← hca]
  exact e1

theorem g_newq1 {a : Int} {idx : Nat} (N : Nat) (hd : decode cc pc = .ok (.anewarray idx, 3)) (hcl : Cond.classLink own idx RX1 ∈ TB) (hk : kd n = 1000 * 5 + N) (hn : N < 1000) (h0 : ¬ Int32.ofInt a < 0) (hN : (Int32.ofInt a).toNatClampNeg = N) (hR : cs + 1 ≤ R.cells ∧ sl + N ≤ R.slots) (kk : Sig cc own nL R B X (n + 1) (cs + 1) (sl + N) σ (pc + 3) lv (rv B n :: st)) : Sig cc own nL R B X n cs sl σ pc lv (iv a :: st) := by
  obtain ⟨p, l, e, s, m, args, below, meth, c, D, ca, cells, slots, Z⟩ := X
  intro ok H locs ls hF hS hl
  subst hN
  refine W.anew ok.1 ok.2.1 ok.2.2.2.1 (ok.2.2.2.2.1 _ hcl) (va_AO.use (ok.2.2.2.2.2.2.2.1)) rfl hd rfl h0 (by omega) hR.1 hR.2 fun cA kA comp f1 f2 f3 f4 => ?_
  generalize hH1 : H.push ({ cls := cA, slots := Array.replicate (Int32.ofInt a).toNatClampNeg .null, vm := .none } : Cell) = H1
  have z1 : H1.size = H.size + 1 := by rw [← hH1, Array.size_push]
  have e1 : H1[H.size]? = some (arrV cA (Int32.ofInt a).toNatClampNeg (fun _ => .null)) := by rw [← hH1, Array.getElem?_push_size, ← arrV_new]
  have o1 : ∀ q : Nat, q < H.size → H1[q]? = H[q]? := fun q hq => by rw [← hH1, Array.getElem?_push, if_neg (Nat.ne_of_lt hq)]
  obtain ⟨kA', comp', r1, r2, r3, r4⟩ := (ok.2.2.2.2.2.1.2 4 _ rfl).2
  have hca : cA = ca 5 := Option.some.inj (f1.symm.trans r4)
  have hz0 : σ n = fun _ => 0 := funext fun j => hF.2.2 n (Nat.le_refl _) j
  rw [show (Value.ref H.size) = rv B n from by rw [hF.2.1]]
  refine kk ok H1 locs ls (hF.grow z1 o1 ?_) (S_grow hS z1 o1) hl
  rw [hk, cell_q (t := 5) (by decide) hn, hz0, ← hca]
  show H1[B + n]? = some (vp_cell _ _)
  rw [vp_cell_q, ← hF.2.1]
  exact e1

theorem g_newq4 {a : Int} {idx : Nat} (N : Nat) (hd : decode cc pc = .ok (.anewarray idx, 3)) (hcl : Cond.classLink own idx RX4 ∈ TB) (hk : kd n = 1000 * 6 + N) (hn : N < 1000) (h0 : ¬ Int32.ofInt a < 0) (hN : (Int32.ofInt a).toNatClampNeg = N) (hR : cs + 1 ≤ R.cells ∧ sl + N ≤ R.slots) (kk : Sig cc own nL R B X (n + 1) (cs + 1) (sl + N) σ (pc + 3) lv (rv B n :: st)) : Sig cc own nL R B X n cs sl σ pc lv (iv a :: st) := by
  obtain ⟨p, l, e, s, m, args, below, meth, c, D, ca, cells, slots, Z⟩ := X
  intro ok H locs ls hF hS hl
  subst hN
  refine W.anew ok.1 ok.2.1 ok.2.2.2.1 (ok.2.2.2.2.1 _ hcl) (va_AO.use (ok.2.2.2.2.2.2.2.2)) rfl hd rfl h0 (by omega) hR.1 hR.2 fun cA kA comp f1 f2 f3 f4 => ?_
  generalize hH1 : H.push ({ cls := cA, slots := Array.replicate (Int32.ofInt a).toNatClampNeg .null, vm := .none } : Cell) = H1
  have z1 : H1.size = H.size + 1 := by rw [← hH1, Array.size_push]
  have e1 : H1[H.size]? = some (arrV cA (Int32.ofInt a).toNatClampNeg (fun _ => .null)) := by rw [← hH1, Array.getElem?_push_size, ← arrV_new]
  have o1 : ∀ q : Nat, q < H.size → H1[q]? = H[q]? := fun q hq => by rw [← hH1, Array.getElem?_push, if_neg (Nat.ne_of_lt hq)]
  obtain ⟨kA', comp', r1, r2, r3, r4⟩ := (ok.2.2.2.2.2.1.2 5 _ rfl).2
  have hca : cA = ca 6 := Option.some.inj (f1.symm.trans r4)
  have hz0 : σ n = fun _ => 0 := funext fun j => hF.2.2 n (Nat.le_refl _) j
  rw [show (Value.ref H.size) = rv B n from by rw [hF.2.1]]
  refine kk ok H1 locs ls (hF.grow z1 o1 ?_) (S_grow hS z1 o1) hl
  rw [hk, cell_q (t := 6) (by decide) hn, hz0, ← hca]
  show H1[B + n]? = some (vp_cell _ _)
  rw [vp_cell_q, ← hF.2.1]
  exact e1

/-- the reference in slot j of place k is place a -/
theorem g_getr {ci j idx k a : Nat} (hd : decode cc pc = .ok (.getfield idx, 3)) (hly : LayOk ci) (hlk : FLk own idx ci j) (hk : kd k = ci) (hkn : k < n) (ht : (fty ci)[j]? = some 2) (ha : σ k j = ((a + 1 : Nat) : Int)) (kk : Sig cc own nL R B X n cs sl σ (pc + 3) lv (rv B a :: st)) : Sig cc own nL R B X n cs sl σ pc lv (rv B k :: st) := by
  obtain ⟨p, l, e, s, m, args, below, meth, c, D, ca, cells, slots, Z⟩ := X
  intro ok H locs ls hF hS hl
  obtain ⟨C, T, N, h1, h2, h3, h4⟩ := hly
  obtain ⟨C', T', N', g1, g2, g3⟩ := hlk
  have he : (C, T, N) = (C', T', N') := Option.some.inj (h1.symm.trans g1)
  cases he
  have hcell : (wl B ca σ n)[k]? = some (B + k, .inr (ci, flds B (σ k) (fty ci))) := by rw [wl_at hkn hk, cellR_obj h4]
  refine va_get (D := D) (cl := vwCl) (C := C) (T := T) (N := N) ok.1 ok.2.1 ok.2.2.2.2.1 h2 ok.2.2.2.1 ok.2.2.2.2.2.1 hF.1 k hcell h1 j g3 (ok.2.2.2.2.1 _ g2) (fun _ h => h) (flds_get ht) hd ?_
  rw [ha, fv_ref]
  exact kk ok H locs ls hF hS hl


theorem g_aast1 {k L : Nat} {i : Int} (j : Nat) (hd : decode cc pc = .ok (.aastore, 1)) (hk : kd k = 1000 * 5 + 12) (hkn : k < n) (hL : kd L = 1) (hLn : L < n) (hi : w32 i = (j : Int)) (hj : j < 12) (kk : Sig cc own nL R B X n cs sl (mset σ k j ((L + 1 : Nat) : Int)) (pc + 1) lv st) : Sig cc own nL R B X n cs sl σ pc lv (rv B L :: iv i :: rv B k :: st) := by
  obtain ⟨p, l, e, s, m, args, below, meth, c, D, ca, cells, slots, Z⟩ := X
  intro ok H locs ls hF hS hl
  have hcell := wl_at (B := B) (ca := ca) (σ := σ) (n := n) hkn hk
  rw [cell_q (t := 5) (by decide) (by decide)] at hcell
  have hcl := wl_at (B := B) (ca := ca) (σ := σ) (n := n) hLn hL
  rw [cellR_obj (by decide)] at hcl
  have hin : vp_in (Int32.ofInt i) 12 := in_of32 (by rw [hi]; omega)
  have hlt : (Int32.ofInt i).toNatClampNeg < 12 := Nat.not_le.mp fun q => hin (Or.inr q)
  have h0 : ¬ Int32.ofInt i < 0 := fun q => hin (Or.inl q)
  have hji : (Int32.ofInt i).toNatClampNeg = j := by rw [w32_nat, hi]; omega
  obtain ⟨r', hr', cellV, g1, g2, g3, -⟩ := hF.1 L _ hcl
  have hcls := (ok.2.2.2.2.2.1.1 1 (RX1, TX1, 15) rfl).2
  obtain ⟨kA, comp, k1, k2, k3, -⟩ := (ok.2.2.2.2.2.1.2 4 _ rfl).2
  have hcomp : comp = D.1 1 := Option.some.inj (k3.symm.trans hcls.1)
  subst hcomp
  obtain ⟨kC, hkC, -⟩ := hcls.2
  refine W.aast ok.1 ok.2.1 (hF.1 k _ hcell) (fun q h => by cases h) (fun h => by cases h) k1 k2 rfl hkC ⟨h0, by show _ < (arrV _ _ _).slots.size; rw [arrV_size]; exact hlt⟩ g1 (fun q h => by rw [g3] at h; cases h) (by rw [g2]; exact hkC) (by rw [g2]; exact va_assign hcls) rfl rfl hd fun H1 e1 z oq => ?_
  have hP := hF.1.set wl_D hcell (e := .inl (ca 5, 12, .inr (.inr (.inr (.inr (va_up (fun i => rfo B (σ k i)) j (some (B + L)))))))) (by
    show H1[B + k]? = some (vp_cell _ _)
    rw [e1]
    rw [vp_cell_q, hji, vp_cell_q, arrV_store]
    congr 2
    funext q
    by_cases hq : q = j
    · subst hq
      simp [updV, va_up, va_rf]
    · simp [updV, va_up, hq]) oq
  have hu : va_up (fun i => rfo B (σ k i)) j (some (B + L)) = fun b => rfo B ((fun b => if b = j then ((L + 1 : Nat) : Int) else σ k b) b) := by
    funext b
    by_cases hb : b = j
    · simp only [va_up, hb, if_true]
      unfold rfo
      rw [if_neg (by omega)]
      simp
    · simp [va_up, hb]
  rw [hu, wl_set (j := j) (v := ((L + 1 : Nat) : Int)) hkn hk (by rw [cell_q (t := 5) (by decide) (by decide)])] at hP
  exact kk ok H1 _ ls (GW.put hP (by rw [z]; exact hF.2.1) hF.2.2 hkn) (hS.put z oq (Nat.le_add_right _ _)) hl

theorem g_aast4 {k L : Nat} {i : Int} (j : Nat) (hd : decode cc pc = .ok (.aastore, 1)) (hk : kd k = 1000 * 6 + 10) (hkn : k < n) (hL : kd L = 4) (hLn : L < n) (hi : w32 i = (j : Int)) (hj : j < 10) (kk : Sig cc own nL R B X n cs sl (mset σ k j ((L + 1 : Nat) : Int)) (pc + 1) lv st) : Sig cc own nL R B X n cs sl σ pc lv (rv B L :: iv i :: rv B k :: st) := by
  obtain ⟨p, l, e, s, m, args, below, meth, c, D, ca, cells, slots, Z⟩ := X
  intro ok H locs ls hF hS hl
  have hcell := wl_at (B := B) (ca := ca) (σ := σ) (n := n) hkn hk
  rw [cell_q (t := 6) (by decide) (by decide)] at hcell
  have hcl := wl_at (B := B) (ca := ca) (σ := σ) (n := n) hLn hL
  rw [cellR_obj (by decide)] at hcl
  have hin : vp_in (Int32.ofInt i) 10 := in_of32 (by rw [hi]; omega)
  have hlt : (Int32.ofInt i).toNatClampNeg < 10 := Nat.not_le.mp fun q => hin (Or.inr q)
  have h0 : ¬ Int32.ofInt i < 0 := fun q => hin (Or.inl q)
  have hji : (Int32.ofInt i).toNatClampNeg = j := by rw [w32_nat, hi]; omega
  obtain ⟨r', hr', cellV, g1, g2, g3, -⟩ := hF.1 L _ hcl
  have hcls := (ok.2.2.2.2.2.1.1 4 (RX4, TX4, 12) rfl).2
  obtain ⟨kA, comp, k1, k2, k3, -⟩ := (ok.2.2.2.2.2.1.2 5 _ rfl).2
  have hcomp : comp = D.1 4 := Option.some.inj (k3.symm.trans hcls.1)
  subst hcomp
  obtain ⟨kC, hkC, -⟩ := hcls.2
  refine W.aast ok.1 ok.2.1 (hF.1 k _ hcell) (fun q h => by cases h) (fun h => by cases h) k1 k2 rfl hkC ⟨h0, by show _ < (arrV _ _ _).slots.size; rw [arrV_size]; exact hlt⟩ g1 (fun q h => by rw [g3] at h; cases h) (by rw [g2]; exact hkC) (by rw [g2]; exact va_assign hcls) rfl rfl hd fun H1 e1 z oq => ?_
  have hP := hF.1.set wl_D hcell (e := .inl (ca 6, 10, .inr (.inr (.inr (.inr (va_up (fun i => rfo B (σ k i)) j (some (B + L)))))))) (by
    show H1[B + k]? = some (vp_cell _ _)
    rw [e1]
    rw [vp_cell_q, hji, vp_cell_q, arrV_store]
    congr 2
    funext q
    by_cases hq : q = j
    · subst hq
      simp [updV, va_up, va_rf]
    · simp [updV, va_up, hq]) oq
  have hu : va_up (fun i => rfo B (σ k i)) j (some (B + L)) = fun b => rfo B ((fun b => if b = j then ((L + 1 : Nat) : Int) else σ k b) b) := by
    funext b
    by_cases hb : b = j
    · simp only [va_up, hb, if_true]
      unfold rfo
      rw [if_neg (by omega)]
      simp
    · simp [va_up, hb]
  rw [hu, wl_set (j := j) (v := ((L + 1 : Nat) : Int)) hkn hk (by rw [cell_q (t := 6) (by decide) (by decide)])] at hP
  exact kk ok H1 _ ls (GW.put hP (by rw [z]; exact hF.2.1) hF.2.2 hkn) (hS.put z oq (Nat.le_add_right _ _)) hl
end GROW
