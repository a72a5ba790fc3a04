
/-! ===== the judgement ===== -/
abbrev Ctx : Type := Program × Launch × Env × State × MethodId × Array Value × List Frame × Method × Code × va_G × (Nat → ClassId) × Nat × Nat × (Int → Mem → State → Prop)
def nestL : List Cond := [.methodLinkNest RX2 70 yX6_bit RX6, .methodLinkNest RX4 34 yX6_parts RX6, .methodLinkNest RX2 160 yX6_parts RX6, .methodLinkNest RX1 82 yX6_parts RX6]
def Nst (U : State) : Prop := ∀ w ∈ nestL, va_Nw w U
theorem Nst.warm {s U : State} (hW : s.WarmedH U.vm) (h : Nst s) : Nst U := by
  intro w hw
  have h1 := h w hw
  simp only [nestL, List.mem_cons, List.not_mem_nil, or_false] at hw
  rcases hw with rfl | rfl | rfl | rfl <;> exact va_Nw.warmM hW h1
def Okx (cc : ByteArray) (own : String) (nL : Nat) (p : Program) (s : State) (m : MethodId) (args : Array Value) (c : Code) (D : va_G) (ca : Nat → ClassId) (R : Room) (cells slots : Nat) : Prop :=
  p.tables.exec = Jvm.exec ∧ c.code = cc ∧ c.maxLocals = nL ∧ s.vm.findClass own = some m.cls ∧ (∀ w ∈ TB, w.before args s = true) ∧ va_K D vwCl (tyL ca) s ∧ Nst s ∧ cells ≤ R.cells ∧ slots ≤ R.slots
/-- where the pure word q answers r, σ', the machine that stands at pc, with the memory σ, comes to a state of Z r σ' -/
def Sim (cc : ByteArray) (own : String) (nL : Nat) (R : Room) (B : Nat) (X : Ctx) (q : PR) (σ : Mem) (pc : Nat) (lv : List (Nat × Value)) (st : List Value) : Prop :=
  match X with
  | (p, l, e, s, m, args, below, meth, c, D, ca, cells, slots, Z) =>
    ∀ (r : Int) (σ' : Mem), q = some (r, σ') → Okx cc own nL p s m args c D ca R cells slots → ∀ (H : Heap) (locs : List Loc) (ls : Array Slot), FW D ca B σ H → va_S (fun a => B ≤ a) s.heap H locs → lv_has ls nL lv →
      W p l e R s m args below meth c H locs cells slots (Z r σ') (F0 m pc ls st)
theorem iv_toInt (x : Int32) : iv x.toInt = .int x := by show Value.int (Int32.ofInt x.toInt) = _; rw [Int32.ofInt_toInt]
theorem jv_toInt (x : Int64) : jv x.toInt = .long x := by show Value.long (Int64.ofInt x.toInt) = _; rw [Int64.ofInt_toInt]
section RULES
variable {cc : ByteArray} {own : String} {nL : Nat} {R : Room} {B : Nat} {X : Ctx} {q q1 q2 : PR} {σ : Mem} {pc : Nat} {lv lv' : List (Nat × Value)} {st : List Value}

theorem s_iconst {n : Int} (hd : decode cc pc = .ok (.iconst n, 1)) (k : Sim cc own nL R B X q σ (pc + 1) lv (iv n :: st)) : Sim cc own nL R B X q σ pc lv (st) := by
  obtain ⟨p, l, e, s, m, args, below, meth, c, D, ca, cells, slots, Z⟩ := X
  intro r σ' hq ok H locs ls hF hS hl
  exact lv_iconst ok.1 ok.2.1 hd rfl (by exact k r σ' hq ok H locs ls hF hS hl)
theorem s_bipush {n : Int} (hd : decode cc pc = .ok (.bipush n, 2)) (hv : (Int8.ofInt n).toInt32 = Int32.ofInt n) (k : Sim cc own nL R B X q σ (pc + 2) lv (iv n :: st)) : Sim cc own nL R B X q σ pc lv (st) := by
  obtain ⟨p, l, e, s, m, args, below, meth, c, D, ca, cells, slots, Z⟩ := X
  intro r σ' hq ok H locs ls hF hS hl
  exact lv_bipush ok.1 ok.2.1 hd hv (by exact k r σ' hq ok H locs ls hF hS hl)
theorem s_sipush {n : Int} (hd : decode cc pc = .ok (.sipush n, 3)) (hv : (Int16.ofInt n).toInt32 = Int32.ofInt n) (k : Sim cc own nL R B X q σ (pc + 3) lv (iv n :: st)) : Sim cc own nL R B X q σ pc lv (st) := by
  obtain ⟨p, l, e, s, m, args, below, meth, c, D, ca, cells, slots, Z⟩ := X
  intro r σ' hq ok H locs ls hF hS hl
  exact lv_sipush ok.1 ok.2.1 hd hv (by exact k r σ' hq ok H locs ls hF hS hl)
theorem s_lconst {n : Fin 2} {x : Int} (hd : decode cc pc = .ok (.lconst n, 1)) (hv : Int64.ofNat (n : Nat) = Int64.ofInt x) (k : Sim cc own nL R B X q σ (pc + 1) lv (jv x :: st)) : Sim cc own nL R B X q σ pc lv (st) := by
  obtain ⟨p, l, e, s, m, args, below, meth, c, D, ca, cells, slots, Z⟩ := X
  intro r σ' hq ok H locs ls hF hS hl
  exact lv_lconst ok.1 ok.2.1 hd hv (by exact k r σ' hq ok H locs ls hF hS hl)
theorem s_ldc2 {idx : Nat} {v : Int64} {x : Int} (hd : decode cc pc = .ok (.ldc2_w idx, 3)) (hw : Cond.constantLong own idx v ∈ TB) (hv : v = Int64.ofInt x) (k : Sim cc own nL R B X q σ (pc + 3) lv (jv x :: st)) : Sim cc own nL R B X q σ pc lv (st) := by
  obtain ⟨p, l, e, s, m, args, below, meth, c, D, ca, cells, slots, Z⟩ := X
  intro r σ' hq ok H locs ls hF hS hl
  subst hv; exact lv_ldc2 ok.1 ok.2.1 ok.2.2.2.1 (ok.2.2.2.2.1 _ hw) hd (by exact k r σ' hq ok H locs ls hF hS hl)
theorem s_ldc {idx : Nat} {v : Int32} {x : Int} (hd : decode cc pc = .ok (.ldc idx, 2)) (hw : Cond.constant own idx v ∈ TB) (hv : v = Int32.ofInt x) (k : Sim cc own nL R B X q σ (pc + 2) lv (iv x :: st)) : Sim cc own nL R B X q σ pc lv (st) := by
  obtain ⟨p, l, e, s, m, args, below, meth, c, D, ca, cells, slots, Z⟩ := X
  intro r σ' hq ok H locs ls hF hS hl
  subst hv; exact lv_ldc ok.1 ok.2.1 ok.2.2.2.1 (ok.2.2.2.2.1 _ hw) hd (by exact k r σ' hq ok H locs ls hF hS hl)
theorem s_ldcw {idx : Nat} {v : Int32} {x : Int} (hd : decode cc pc = .ok (.ldc_w idx, 3)) (hw : Cond.constant own idx v ∈ TB) (hv : v = Int32.ofInt x) (k : Sim cc own nL R B X q σ (pc + 3) lv (iv x :: st)) : Sim cc own nL R B X q σ pc lv (st) := by
  obtain ⟨p, l, e, s, m, args, below, meth, c, D, ca, cells, slots, Z⟩ := X
  intro r σ' hq ok H locs ls hF hS hl
  subst hv; exact lv_ldcw ok.1 ok.2.1 ok.2.2.2.1 (ok.2.2.2.2.1 _ hw) hd (by exact k r σ' hq ok H locs ls hF hS hl)
theorem s_iload_n (j : Nat) {n : Fin 4} {i : Nat} {x : Int} (hd : decode cc pc = .ok (.iload_n n, 1)) (hi : (n : Nat) = i) (hj : lv[j]? = some (i, iv x)) (k : Sim cc own nL R B X q σ (pc + 1) lv (iv x :: st)) : Sim cc own nL R B X q σ pc lv (st) := by
  obtain ⟨p, l, e, s, m, args, below, meth, c, D, ca, cells, slots, Z⟩ := X
  intro r σ' hq ok H locs ls hF hS hl
  exact lv_iload_n ok.1 ok.2.1 hd hi (lv_at hl j hj) (by exact k r σ' hq ok H locs ls hF hS hl)
theorem s_iload (j : Nat) {i : Nat} {x : Int} (hd : decode cc pc = .ok (.iload i, 2)) (hj : lv[j]? = some (i, iv x)) (k : Sim cc own nL R B X q σ (pc + 2) lv (iv x :: st)) : Sim cc own nL R B X q σ pc lv (st) := by
  obtain ⟨p, l, e, s, m, args, below, meth, c, D, ca, cells, slots, Z⟩ := X
  intro r σ' hq ok H locs ls hF hS hl
  exact lv_iload ok.1 ok.2.1 hd (lv_at hl j hj) (by exact k r σ' hq ok H locs ls hF hS hl)
theorem s_lload_n (j : Nat) {n : Fin 4} {i : Nat} {x : Int} (hd : decode cc pc = .ok (.lload_n n, 1)) (hi : (n : Nat) = i) (hj : lv[j]? = some (i, jv x)) (k : Sim cc own nL R B X q σ (pc + 1) lv (jv x :: st)) : Sim cc own nL R B X q σ pc lv (st) := by
  obtain ⟨p, l, e, s, m, args, below, meth, c, D, ca, cells, slots, Z⟩ := X
  intro r σ' hq ok H locs ls hF hS hl
  exact lv_lload_n ok.1 ok.2.1 hd hi (lv_at hl j hj) (by exact k r σ' hq ok H locs ls hF hS hl)
theorem s_lload (j : Nat) {i : Nat} {x : Int} (hd : decode cc pc = .ok (.lload i, 2)) (hj : lv[j]? = some (i, jv x)) (k : Sim cc own nL R B X q σ (pc + 2) lv (jv x :: st)) : Sim cc own nL R B X q σ pc lv (st) := by
  obtain ⟨p, l, e, s, m, args, below, meth, c, D, ca, cells, slots, Z⟩ := X
  intro r σ' hq ok H locs ls hF hS hl
  exact lv_lload ok.1 ok.2.1 hd (lv_at hl j hj) (by exact k r σ' hq ok H locs ls hF hS hl)
theorem s_aload_n (j : Nat) {n : Fin 4} {i : Nat} {x : Nat} (hd : decode cc pc = .ok (.aload_n n, 1)) (hi : (n : Nat) = i) (hj : lv[j]? = some (i, .ref x)) (k : Sim cc own nL R B X q σ (pc + 1) lv (.ref x :: st)) : Sim cc own nL R B X q σ pc lv (st) := by
  obtain ⟨p, l, e, s, m, args, below, meth, c, D, ca, cells, slots, Z⟩ := X
  intro r σ' hq ok H locs ls hF hS hl
  exact lv_aload_n ok.1 ok.2.1 hd hi (lv_at hl j hj) (by exact k r σ' hq ok H locs ls hF hS hl)
theorem s_aload (j : Nat) {i : Nat} {x : Nat} (hd : decode cc pc = .ok (.aload i, 2)) (hj : lv[j]? = some (i, .ref x)) (k : Sim cc own nL R B X q σ (pc + 2) lv (.ref x :: st)) : Sim cc own nL R B X q σ pc lv (st) := by
  obtain ⟨p, l, e, s, m, args, below, meth, c, D, ca, cells, slots, Z⟩ := X
  intro r σ' hq ok H locs ls hF hS hl
  exact lv_aload ok.1 ok.2.1 hd (lv_at hl j hj) (by exact k r σ' hq ok H locs ls hF hS hl)
theorem s_istore_n {n : Fin 4} {i : Nat} {x : Int} (hd : decode cc pc = .ok (.istore_n n, 1)) (hi : (n : Nat) = i) (hn : i < nL) (hl2 : (i, (iv x : Value)) :: lv.filter (fun q => !(q.1 == i) && !(q.1 + 1 == i && q.2.category == 2)) = lv') (k : Sim cc own nL R B X q σ (pc + 1) lv' st) : Sim cc own nL R B X q σ pc lv (iv x :: st) := by
  obtain ⟨p, l, e, s, m, args, below, meth, c, D, ca, cells, slots, Z⟩ := X
  intro r σ' hq ok H locs ls hF hS hl
  exact lv_istore_n ok.1 ok.2.1 hd hi hl hn hl2 (fun ls hl => by exact k r σ' hq ok H locs ls hF hS hl)
theorem s_istore {i : Nat} {x : Int} (hd : decode cc pc = .ok (.istore i, 2)) (hn : i < nL) (hl2 : (i, (iv x : Value)) :: lv.filter (fun q => !(q.1 == i) && !(q.1 + 1 == i && q.2.category == 2)) = lv') (k : Sim cc own nL R B X q σ (pc + 2) lv' st) : Sim cc own nL R B X q σ pc lv (iv x :: st) := by
  obtain ⟨p, l, e, s, m, args, below, meth, c, D, ca, cells, slots, Z⟩ := X
  intro r σ' hq ok H locs ls hF hS hl
  exact lv_istore ok.1 ok.2.1 hd hl hn hl2 (fun ls hl => by exact k r σ' hq ok H locs ls hF hS hl)
theorem s_lstore_n {n : Fin 4} {i : Nat} {x : Int} (hd : decode cc pc = .ok (.lstore_n n, 1)) (hi : (n : Nat) = i) (hn : i + 1 < nL) (hl2 : (i, (jv x : Value)) :: lv.filter (fun q => !(q.1 == i) && (!(q.1 == i + 1) && !(q.1 + 1 == i && q.2.category == 2))) = lv') (k : Sim cc own nL R B X q σ (pc + 1) lv' st) : Sim cc own nL R B X q σ pc lv (jv x :: st) := by
  obtain ⟨p, l, e, s, m, args, below, meth, c, D, ca, cells, slots, Z⟩ := X
  intro r σ' hq ok H locs ls hF hS hl
  exact lv_lstore_n ok.1 ok.2.1 hd hi hl hn hl2 (fun ls hl => by exact k r σ' hq ok H locs ls hF hS hl)
theorem s_lstore {i : Nat} {x : Int} (hd : decode cc pc = .ok (.lstore i, 2)) (hn : i + 1 < nL) (hl2 : (i, (jv x : Value)) :: lv.filter (fun q => !(q.1 == i) && (!(q.1 == i + 1) && !(q.1 + 1 == i && q.2.category == 2))) = lv') (k : Sim cc own nL R B X q σ (pc + 2) lv' st) : Sim cc own nL R B X q σ pc lv (jv x :: st) := by
  obtain ⟨p, l, e, s, m, args, below, meth, c, D, ca, cells, slots, Z⟩ := X
  intro r σ' hq ok H locs ls hF hS hl
  exact lv_lstore ok.1 ok.2.1 hd hl hn hl2 (fun ls hl => by exact k r σ' hq ok H locs ls hF hS hl)
theorem s_astore_n {n : Fin 4} {i : Nat} {x : Nat} (hd : decode cc pc = .ok (.astore_n n, 1)) (hi : (n : Nat) = i) (hn : i < nL) (hl2 : (i, (.ref x : Value)) :: lv.filter (fun q => !(q.1 == i) && !(q.1 + 1 == i && q.2.category == 2)) = lv') (k : Sim cc own nL R B X q σ (pc + 1) lv' st) : Sim cc own nL R B X q σ pc lv (.ref x :: st) := by
  obtain ⟨p, l, e, s, m, args, below, meth, c, D, ca, cells, slots, Z⟩ := X
  intro r σ' hq ok H locs ls hF hS hl
  exact lv_astore_n ok.1 ok.2.1 hd hi hl hn hl2 (fun ls hl => by exact k r σ' hq ok H locs ls hF hS hl)
theorem s_astore {i : Nat} {x : Nat} (hd : decode cc pc = .ok (.astore i, 2)) (hn : i < nL) (hl2 : (i, (.ref x : Value)) :: lv.filter (fun q => !(q.1 == i) && !(q.1 + 1 == i && q.2.category == 2)) = lv') (k : Sim cc own nL R B X q σ (pc + 2) lv' st) : Sim cc own nL R B X q σ pc lv (.ref x :: st) := by
  obtain ⟨p, l, e, s, m, args, below, meth, c, D, ca, cells, slots, Z⟩ := X
  intro r σ' hq ok H locs ls hF hS hl
  exact lv_astore ok.1 ok.2.1 hd hl hn hl2 (fun ls hl => by exact k r σ' hq ok H locs ls hF hS hl)
theorem s_iinc (j : Nat) {i : Nat} {n x : Int} (hd : decode cc pc = .ok (.iinc i n, 3)) (hj : lv[j]? = some (i, iv x)) (hn : i < nL) (hl2 : (i, (iv (x + n) : Value)) :: lv.filter (fun q => !(q.1 == i) && !(q.1 + 1 == i && q.2.category == 2)) = lv') (k : Sim cc own nL R B X q σ (pc + 3) lv' st) : Sim cc own nL R B X q σ pc lv st := by
  obtain ⟨p, l, e, s, m, args, below, meth, c, D, ca, cells, slots, Z⟩ := X
  intro r σ' hq ok H locs ls hF hS hl
  exact lv_iinc ok.1 ok.2.1 hd hl hj (Int32.ofInt_add x n).symm hn hl2 (fun ls hl => by exact k r σ' hq ok H locs ls hF hS hl)
theorem s_sub (ks : List Nat) (h : lv_pick lv ks = lv') (k : Sim cc own nL R B X q σ pc lv' st) : Sim cc own nL R B X q σ pc lv st := by
  obtain ⟨p, l, e, s, m, args, below, meth, c, D, ca, cells, slots, Z⟩ := X
  intro r σ' hq ok H locs ls hF hS hl
  exact k r σ' hq ok H locs ls hF hS (lv_sub hl ks h)
theorem s_iadd {a b : Int} (hd : decode cc pc = .ok (.iadd, 1)) (k : Sim cc own nL R B X q σ (pc + 1) lv (iv (a + b) :: st)) : Sim cc own nL R B X q σ pc lv (iv b :: iv a :: st) := by
  obtain ⟨p, l, e, s, m, args, below, meth, c, D, ca, cells, slots, Z⟩ := X
  intro r σ' hq ok H locs ls hF hS hl
  refine lv_iadd ok.1 ok.2.1 hd ?_
  rw [← Int32.ofInt_add]
  exact k r σ' hq ok H locs ls hF hS hl
theorem s_isub {a b : Int} (hd : decode cc pc = .ok (.isub, 1)) (k : Sim cc own nL R B X q σ (pc + 1) lv (iv (a - b) :: st)) : Sim cc own nL R B X q σ pc lv (iv b :: iv a :: st) := by
  obtain ⟨p, l, e, s, m, args, below, meth, c, D, ca, cells, slots, Z⟩ := X
  intro r σ' hq ok H locs ls hF hS hl
  refine lv_isub ok.1 ok.2.1 hd ?_
  rw [← Int32.ofInt_sub]
  exact k r σ' hq ok H locs ls hF hS hl
theorem s_imul {a b : Int} (hd : decode cc pc = .ok (.imul, 1)) (k : Sim cc own nL R B X q σ (pc + 1) lv (iv (a * b) :: st)) : Sim cc own nL R B X q σ pc lv (iv b :: iv a :: st) := by
  obtain ⟨p, l, e, s, m, args, below, meth, c, D, ca, cells, slots, Z⟩ := X
  intro r σ' hq ok H locs ls hF hS hl
  refine lv_imul ok.1 ok.2.1 hd ?_
  rw [← Int32.ofInt_mul]
  exact k r σ' hq ok H locs ls hF hS hl
theorem s_ladd {a b : Int} (hd : decode cc pc = .ok (.ladd, 1)) (k : Sim cc own nL R B X q σ (pc + 1) lv (jv (a + b) :: st)) : Sim cc own nL R B X q σ pc lv (jv b :: jv a :: st) := by
  obtain ⟨p, l, e, s, m, args, below, meth, c, D, ca, cells, slots, Z⟩ := X
  intro r σ' hq ok H locs ls hF hS hl
  refine lv_ladd ok.1 ok.2.1 hd ?_
  rw [← Int64.ofInt_add]
  exact k r σ' hq ok H locs ls hF hS hl
theorem s_lsub {a b : Int} (hd : decode cc pc = .ok (.lsub, 1)) (k : Sim cc own nL R B X q σ (pc + 1) lv (jv (a - b) :: st)) : Sim cc own nL R B X q σ pc lv (jv b :: jv a :: st) := by
  obtain ⟨p, l, e, s, m, args, below, meth, c, D, ca, cells, slots, Z⟩ := X
  intro r σ' hq ok H locs ls hF hS hl
  refine lv_lsub ok.1 ok.2.1 hd ?_
  rw [← Int64.ofInt_sub]
  exact k r σ' hq ok H locs ls hF hS hl
theorem s_lmul {a b : Int} (hd : decode cc pc = .ok (.lmul, 1)) (k : Sim cc own nL R B X q σ (pc + 1) lv (jv (a * b) :: st)) : Sim cc own nL R B X q σ pc lv (jv b :: jv a :: st) := by
  obtain ⟨p, l, e, s, m, args, below, meth, c, D, ca, cells, slots, Z⟩ := X
  intro r σ' hq ok H locs ls hF hS hl
  refine lv_lmul ok.1 ok.2.1 hd ?_
  rw [← Int64.ofInt_mul]
  exact k r σ' hq ok H locs ls hF hS hl
theorem s_iand {a b : Int} (hd : decode cc pc = .ok (.iand, 1)) (k : Sim cc own nL R B X q σ (pc + 1) lv (iv (and32 a b) :: st)) : Sim cc own nL R B X q σ pc lv (iv b :: iv a :: st) := by
  obtain ⟨p, l, e, s, m, args, below, meth, c, D, ca, cells, slots, Z⟩ := X
  intro r σ' hq ok H locs ls hF hS hl
  have k := k r σ' hq ok H locs ls hF hS hl
  unfold and32 at k
  rw [iv_toInt] at k
  exact lv_iand ok.1 ok.2.1 hd k
theorem s_ior {a b : Int} (hd : decode cc pc = .ok (.ior, 1)) (k : Sim cc own nL R B X q σ (pc + 1) lv (iv (or32 a b) :: st)) : Sim cc own nL R B X q σ pc lv (iv b :: iv a :: st) := by
  obtain ⟨p, l, e, s, m, args, below, meth, c, D, ca, cells, slots, Z⟩ := X
  intro r σ' hq ok H locs ls hF hS hl
  have k := k r σ' hq ok H locs ls hF hS hl
  unfold or32 at k
  rw [iv_toInt] at k
  exact lv_ior ok.1 ok.2.1 hd k
theorem s_ixor {a b : Int} (hd : decode cc pc = .ok (.ixor, 1)) (k : Sim cc own nL R B X q σ (pc + 1) lv (iv (xor32 a b) :: st)) : Sim cc own nL R B X q σ pc lv (iv b :: iv a :: st) := by
  obtain ⟨p, l, e, s, m, args, below, meth, c, D, ca, cells, slots, Z⟩ := X
  intro r σ' hq ok H locs ls hF hS hl
  have k := k r σ' hq ok H locs ls hF hS hl
  unfold xor32 at k
  rw [iv_toInt] at k
  exact lv_ixor ok.1 ok.2.1 hd k
theorem s_ishl {a b : Int} (hd : decode cc pc = .ok (.ishl, 1)) (k : Sim cc own nL R B X q σ (pc + 1) lv (iv (shl32 a b) :: st)) : Sim cc own nL R B X q σ pc lv (iv b :: iv a :: st) := by
  obtain ⟨p, l, e, s, m, args, below, meth, c, D, ca, cells, slots, Z⟩ := X
  intro r σ' hq ok H locs ls hF hS hl
  have k := k r σ' hq ok H locs ls hF hS hl
  unfold shl32 at k
  rw [iv_toInt] at k
  exact lv_ishl ok.1 ok.2.1 hd k
theorem s_ishr {a b : Int} (hd : decode cc pc = .ok (.ishr, 1)) (k : Sim cc own nL R B X q σ (pc + 1) lv (iv (shr32 a b) :: st)) : Sim cc own nL R B X q σ pc lv (iv b :: iv a :: st) := by
  obtain ⟨p, l, e, s, m, args, below, meth, c, D, ca, cells, slots, Z⟩ := X
  intro r σ' hq ok H locs ls hF hS hl
  have k := k r σ' hq ok H locs ls hF hS hl
  unfold shr32 at k
  rw [iv_toInt] at k
  exact lv_ishr ok.1 ok.2.1 hd k
theorem s_iushr {a b : Int} (hd : decode cc pc = .ok (.iushr, 1)) (k : Sim cc own nL R B X q σ (pc + 1) lv (iv (ushr32 a b) :: st)) : Sim cc own nL R B X q σ pc lv (iv b :: iv a :: st) := by
  obtain ⟨p, l, e, s, m, args, below, meth, c, D, ca, cells, slots, Z⟩ := X
  intro r σ' hq ok H locs ls hF hS hl
  have k := k r σ' hq ok H locs ls hF hS hl
  unfold ushr32 at k
  rw [iv_toInt] at k
  exact lv_iushr ok.1 ok.2.1 hd rfl k
theorem s_i2b {a : Int} (hd : decode cc pc = .ok (.i2b, 1)) (k : Sim cc own nL R B X q σ (pc + 1) lv (iv (b8 a) :: st)) : Sim cc own nL R B X q σ pc lv (iv a :: st) := by
  obtain ⟨p, l, e, s, m, args, below, meth, c, D, ca, cells, slots, Z⟩ := X
  intro r σ' hq ok H locs ls hF hS hl
  have k := k r σ' hq ok H locs ls hF hS hl
  unfold b8 at k
  rw [iv_toInt] at k
  exact lv_i2b ok.1 ok.2.1 hd rfl k
theorem s_i2l {a : Int} (hd : decode cc pc = .ok (.i2l, 1)) (k : Sim cc own nL R B X q σ (pc + 1) lv (jv (w32 a) :: st)) : Sim cc own nL R B X q σ pc lv (iv a :: st) := by
  obtain ⟨p, l, e, s, m, args, below, meth, c, D, ca, cells, slots, Z⟩ := X
  intro r σ' hq ok H locs ls hF hS hl
  exact lv_i2l ok.1 ok.2.1 hd (Int64.ofInt_int32ToInt _).symm (by exact k r σ' hq ok H locs ls hF hS hl)
theorem s_l2i {a : Int} (hd : decode cc pc = .ok (.l2i, 1)) (k : Sim cc own nL R B X q σ (pc + 1) lv (iv a :: st)) : Sim cc own nL R B X q σ pc lv (jv a :: st) := by
  obtain ⟨p, l, e, s, m, args, below, meth, c, D, ca, cells, slots, Z⟩ := X
  intro r σ' hq ok H locs ls hF hS hl
  exact lv_l2i ok.1 ok.2.1 hd Int64.toInt32_ofInt (by exact k r σ' hq ok H locs ls hF hS hl)
theorem s_ineg {a : Int} (hd : decode cc pc = .ok (.ineg, 1)) (k : Sim cc own nL R B X q σ (pc + 1) lv (iv (-a) :: st)) : Sim cc own nL R B X q σ pc lv (iv a :: st) := by
  obtain ⟨p, l, e, s, m, args, below, meth, c, D, ca, cells, slots, Z⟩ := X
  intro r σ' hq ok H locs ls hF hS hl
  refine lv_ineg ok.1 ok.2.1 hd ?_
  rw [← Int32.ofInt_neg]
  exact k r σ' hq ok H locs ls hF hS hl
theorem s_lneg {a : Int} (hd : decode cc pc = .ok (.lneg, 1)) (k : Sim cc own nL R B X q σ (pc + 1) lv (jv (-a) :: st)) : Sim cc own nL R B X q σ pc lv (jv a :: st) := by
  obtain ⟨p, l, e, s, m, args, below, meth, c, D, ca, cells, slots, Z⟩ := X
  intro r σ' hq ok H locs ls hF hS hl
  refine lv_lneg ok.1 ok.2.1 hd ?_
  rw [← Int64.ofInt_neg]
  exact k r σ' hq ok H locs ls hF hS hl
theorem s_idiv {a b : Int} (hd : decode cc pc = .ok (.idiv, 1)) (k : Sim cc own nL R B X q σ (pc + 1) lv (iv (div32 a b) :: st)) : Sim cc own nL R B X (dv32 b q) σ pc lv (iv b :: iv a :: st) := by
  obtain ⟨p, l, e, s, m, args, below, meth, c, D, ca, cells, slots, Z⟩ := X
  intro r σ' hq ok H locs ls hF hS hl
  unfold dv32 at hq
  by_cases h0 : w32 b = 0
  · rw [if_pos h0] at hq; cases hq
  · rw [if_neg h0] at hq
    have k := k r σ' hq ok H locs ls hF hS hl
    unfold div32 at k
    rw [iv_toInt] at k
    exact lv_idiv ok.1 ok.2.1 hd (fun h => h0 (by unfold w32; rw [h]; rfl)) k
theorem s_irem {a b : Int} (hd : decode cc pc = .ok (.irem, 1)) (k : Sim cc own nL R B X q σ (pc + 1) lv (iv (rem32 a b) :: st)) : Sim cc own nL R B X (dv32 b q) σ pc lv (iv b :: iv a :: st) := by
  obtain ⟨p, l, e, s, m, args, below, meth, c, D, ca, cells, slots, Z⟩ := X
  intro r σ' hq ok H locs ls hF hS hl
  unfold dv32 at hq
  by_cases h0 : w32 b = 0
  · rw [if_pos h0] at hq; cases hq
  · rw [if_neg h0] at hq
    have k := k r σ' hq ok H locs ls hF hS hl
    unfold rem32 at k
    rw [iv_toInt] at k
    exact lv_irem ok.1 ok.2.1 hd (fun h => h0 (by unfold w32; rw [h]; rfl)) k
theorem s_ldiv {a b : Int} (hd : decode cc pc = .ok (.ldiv, 1)) (k : Sim cc own nL R B X q σ (pc + 1) lv (jv (div64 a b) :: st)) : Sim cc own nL R B X (dv64 b q) σ pc lv (jv b :: jv a :: st) := by
  obtain ⟨p, l, e, s, m, args, below, meth, c, D, ca, cells, slots, Z⟩ := X
  intro r σ' hq ok H locs ls hF hS hl
  unfold dv64 at hq
  by_cases h0 : w64 b = 0
  · rw [if_pos h0] at hq; cases hq
  · rw [if_neg h0] at hq
    have k := k r σ' hq ok H locs ls hF hS hl
    unfold div64 at k
    rw [jv_toInt] at k
    exact lv_ldiv ok.1 ok.2.1 hd (fun h => h0 (by unfold w64; rw [h]; rfl)) k
theorem s_dup {v : Value} (hd : decode cc pc = .ok (.dup, 1)) (hv : v.category = 1) (k : Sim cc own nL R B X q σ (pc + 1) lv (v :: v :: st)) : Sim cc own nL R B X q σ pc lv (v :: st) := by
  obtain ⟨p, l, e, s, m, args, below, meth, c, D, ca, cells, slots, Z⟩ := X
  intro r σ' hq ok H locs ls hF hS hl
  exact lv_dup ok.1 ok.2.1 hd hv (by exact k r σ' hq ok H locs ls hF hS hl)
theorem s_pop {v : Value} (hd : decode cc pc = .ok (.pop, 1)) (hv : v.category = 1) (k : Sim cc own nL R B X q σ (pc + 1) lv st) : Sim cc own nL R B X q σ pc lv (v :: st) := by
  obtain ⟨p, l, e, s, m, args, below, meth, c, D, ca, cells, slots, Z⟩ := X
  intro r σ' hq ok H locs ls hF hS hl
  exact lv_pop ok.1 ok.2.1 hd hv (by exact k r σ' hq ok H locs ls hF hS hl)
theorem s_dup_x1 {v u : Value} (hd : decode cc pc = .ok (.dup_x1, 1)) (hv : v.category = 1) (hu : u.category = 1) (k : Sim cc own nL R B X q σ (pc + 1) lv (v :: u :: v :: st)) : Sim cc own nL R B X q σ pc lv (v :: u :: st) := by
  obtain ⟨p, l, e, s, m, args, below, meth, c, D, ca, cells, slots, Z⟩ := X
  intro r σ' hq ok H locs ls hF hS hl
  exact lv_dup_x1 ok.1 ok.2.1 hd hv hu (by exact k r σ' hq ok H locs ls hF hS hl)
theorem s_dup2 {v u : Value} (hd : decode cc pc = .ok (.dup2, 1)) (hv : v.category = 1) (hu : u.category = 1) (k : Sim cc own nL R B X q σ (pc + 1) lv (v :: u :: v :: u :: st)) : Sim cc own nL R B X q σ pc lv (v :: u :: st) := by
  obtain ⟨p, l, e, s, m, args, below, meth, c, D, ca, cells, slots, Z⟩ := X
  intro r σ' hq ok H locs ls hF hS hl
  exact lv_dup2_11 ok.1 ok.2.1 hd hv hu (by exact k r σ' hq ok H locs ls hF hS hl)
theorem s_goto {off : Int} {tgt : Nat} (hd : decode cc pc = .ok (.goto off, 3)) (ht : (pc : Int) + off = (tgt : Int)) (k : Sim cc own nL R B X q σ tgt lv st) : Sim cc own nL R B X q σ pc lv (st) := by
  obtain ⟨p, l, e, s, m, args, below, meth, c, D, ca, cells, slots, Z⟩ := X
  intro r σ' hq ok H locs ls hF hS hl
  exact lv_goto ok.1 ok.2.1 hd ht (by exact k r σ' hq ok H locs ls hF hS hl)
theorem e32_eq {a b : Int} : Int32.ofInt a = Int32.ofInt b ↔ w32 a = w32 b := Int32.toInt_inj.symm
theorem e32_ne {a b : Int} : Int32.ofInt a ≠ Int32.ofInt b ↔ w32 a ≠ w32 b := not_congr e32_eq
theorem e32_lt {a b : Int} : Int32.ofInt a < Int32.ofInt b ↔ w32 a < w32 b := Int32.lt_iff_toInt_lt
theorem e32_le {a b : Int} : Int32.ofInt a ≤ Int32.ofInt b ↔ w32 a ≤ w32 b := Int32.le_iff_toInt_le
theorem z32_eq {a : Int} : Int32.ofInt a = 0 ↔ w32 a = 0 := e32_eq (b := 0)
theorem z32_ne {a : Int} : Int32.ofInt a ≠ 0 ↔ w32 a ≠ 0 := not_congr z32_eq
theorem z32_lt {a : Int} : Int32.ofInt a < 0 ↔ w32 a < 0 := e32_lt (b := 0)
theorem z32_le {a : Int} : Int32.ofInt a ≤ 0 ↔ w32 a ≤ 0 := e32_le (b := 0)
theorem z32_gt {a : Int} : 0 < Int32.ofInt a ↔ 0 < w32 a := e32_lt (a := 0)
theorem z32_ge {a : Int} : 0 ≤ Int32.ofInt a ↔ 0 ≤ w32 a := e32_le (a := 0)
theorem l64_eq {a b : Int} : lg_cmp (Int64.ofInt a) (Int64.ofInt b) = 0 ↔ w64 a = w64 b := (lg_cmp_eq _ _).trans Int64.toInt_inj.symm
theorem l64_ne {a b : Int} : lg_cmp (Int64.ofInt a) (Int64.ofInt b) ≠ 0 ↔ w64 a ≠ w64 b := not_congr l64_eq
theorem l64_lt {a b : Int} : lg_cmp (Int64.ofInt a) (Int64.ofInt b) < 0 ↔ w64 a < w64 b := (lg_cmp_lt _ _).trans Int64.lt_iff_toInt_lt
theorem l64_le {a b : Int} : lg_cmp (Int64.ofInt a) (Int64.ofInt b) ≤ 0 ↔ w64 a ≤ w64 b := (lg_cmp_le _ _).trans Int64.le_iff_toInt_le
theorem l64_gt {a b : Int} : 0 < lg_cmp (Int64.ofInt a) (Int64.ofInt b) ↔ w64 b < w64 a := (lg_cmp_gt _ _).trans Int64.lt_iff_toInt_lt
theorem l64_ge {a b : Int} : 0 ≤ lg_cmp (Int64.ofInt a) (Int64.ofInt b) ↔ w64 b ≤ w64 a := (lg_cmp_ge _ _).trans Int64.le_iff_toInt_le
theorem s_icmp_eq {a b off : Int} {tgt : Nat} (hd : decode cc pc = .ok (.if_icmp .eq off, 3)) (ht : (pc : Int) + off = (tgt : Int)) (kt : Sim cc own nL R B X q1 σ tgt lv st) (kf : Sim cc own nL R B X q2 σ (pc + 3) lv st) : Sim cc own nL R B X (if w32 a = w32 b then q1 else q2) σ pc lv (iv b :: iv a :: st) := by
  obtain ⟨p, l, e, s, m, args, below, meth, c, D, ca, cells, slots, Z⟩ := X
  intro r σ' hq ok H locs ls hF hS hl
  exact lv_icmp_eq ok.1 ok.2.1 hd ht (fun h => by rw [if_pos (e32_eq.mp h)] at hq; exact kt r σ' hq ok H locs ls hF hS hl) (fun h => by rw [if_neg (fun g => h (e32_eq.mpr g))] at hq; exact kf r σ' hq ok H locs ls hF hS hl)
theorem s_if_eq {a off : Int} {tgt : Nat} (hd : decode cc pc = .ok (.ifCond .eq off, 3)) (ht : (pc : Int) + off = (tgt : Int)) (kt : Sim cc own nL R B X q1 σ tgt lv st) (kf : Sim cc own nL R B X q2 σ (pc + 3) lv st) : Sim cc own nL R B X (if w32 a = 0 then q1 else q2) σ pc lv (iv a :: st) := by
  obtain ⟨p, l, e, s, m, args, below, meth, c, D, ca, cells, slots, Z⟩ := X
  intro r σ' hq ok H locs ls hF hS hl
  exact lv_if_eq ok.1 ok.2.1 hd ht (fun h => by rw [if_pos (z32_eq.mp h)] at hq; exact kt r σ' hq ok H locs ls hF hS hl) (fun h => by rw [if_neg (fun g => h (z32_eq.mpr g))] at hq; exact kf r σ' hq ok H locs ls hF hS hl)
theorem s_lif_eq {a b off : Int} {tgt : Nat} (hd0 : decode cc pc = .ok (.lcmp, 1)) (hd : decode cc (pc + 1) = .ok (.ifCond .eq off, 3)) (ht : ((pc + 1 : Nat) : Int) + off = (tgt : Int)) (kt : Sim cc own nL R B X q1 σ tgt lv st) (kf : Sim cc own nL R B X q2 σ (pc + 4) lv st) : Sim cc own nL R B X (if w64 a = w64 b then q1 else q2) σ pc lv (jv b :: jv a :: st) := by
  obtain ⟨p, l, e, s, m, args, below, meth, c, D, ca, cells, slots, Z⟩ := X
  intro r σ' hq ok H locs ls hF hS hl
  exact W.lcmp ok.1 ok.2.1 hd0 (lv_if_eq ok.1 ok.2.1 hd ht (fun h => by rw [if_pos (l64_eq.mp h)] at hq; exact kt r σ' hq ok H locs ls hF hS hl) (fun h => by rw [if_neg (fun g => h (l64_eq.mpr g))] at hq; exact kf r σ' hq ok H locs ls hF hS hl))
theorem s_icmp_ne {a b off : Int} {tgt : Nat} (hd : decode cc pc = .ok (.if_icmp .ne off, 3)) (ht : (pc : Int) + off = (tgt : Int)) (kt : Sim cc own nL R B X q1 σ tgt lv st) (kf : Sim cc own nL R B X q2 σ (pc + 3) lv st) : Sim cc own nL R B X (if w32 a ≠ w32 b then q1 else q2) σ pc lv (iv b :: iv a :: st) := by
  obtain ⟨p, l, e, s, m, args, below, meth, c, D, ca, cells, slots, Z⟩ := X
  intro r σ' hq ok H locs ls hF hS hl
  exact lv_icmp_ne ok.1 ok.2.1 hd ht (fun h => by rw [if_pos (e32_ne.mp h)] at hq; exact kt r σ' hq ok H locs ls hF hS hl) (fun h => by rw [if_neg (fun g => (e32_ne.mpr g) h)] at hq; exact kf r σ' hq ok H locs ls hF hS hl)
theorem s_if_ne {a off : Int} {tgt : Nat} (hd : decode cc pc = .ok (.ifCond .ne off, 3)) (ht : (pc : Int) + off = (tgt : Int)) (kt : Sim cc own nL R B X q1 σ tgt lv st) (kf : Sim cc own nL R B X q2 σ (pc + 3) lv st) : Sim cc own nL R B X (if w32 a ≠ 0 then q1 else q2) σ pc lv (iv a :: st) := by
  obtain ⟨p, l, e, s, m, args, below, meth, c, D, ca, cells, slots, Z⟩ := X
  intro r σ' hq ok H locs ls hF hS hl
  exact lv_if_ne ok.1 ok.2.1 hd ht (fun h => by rw [if_pos (z32_ne.mp h)] at hq; exact kt r σ' hq ok H locs ls hF hS hl) (fun h => by rw [if_neg (fun g => (z32_ne.mpr g) h)] at hq; exact kf r σ' hq ok H locs ls hF hS hl)
theorem s_lif_ne {a b off : Int} {tgt : Nat} (hd0 : decode cc pc = .ok (.lcmp, 1)) (hd : decode cc (pc + 1) = .ok (.ifCond .ne off, 3)) (ht : ((pc + 1 : Nat) : Int) + off = (tgt : Int)) (kt : Sim cc own nL R B X q1 σ tgt lv st) (kf : Sim cc own nL R B X q2 σ (pc + 4) lv st) : Sim cc own nL R B X (if w64 a ≠ w64 b then q1 else q2) σ pc lv (jv b :: jv a :: st) := by
  obtain ⟨p, l, e, s, m, args, below, meth, c, D, ca, cells, slots, Z⟩ := X
  intro r σ' hq ok H locs ls hF hS hl
  exact W.lcmp ok.1 ok.2.1 hd0 (lv_if_ne ok.1 ok.2.1 hd ht (fun h => by rw [if_pos (l64_ne.mp h)] at hq; exact kt r σ' hq ok H locs ls hF hS hl) (fun h => by rw [if_neg (fun g => (l64_ne.mpr g) h)] at hq; exact kf r σ' hq ok H locs ls hF hS hl))
theorem s_icmp_lt {a b off : Int} {tgt : Nat} (hd : decode cc pc = .ok (.if_icmp .lt off, 3)) (ht : (pc : Int) + off = (tgt : Int)) (kt : Sim cc own nL R B X q1 σ tgt lv st) (kf : Sim cc own nL R B X q2 σ (pc + 3) lv st) : Sim cc own nL R B X (if w32 a < w32 b then q1 else q2) σ pc lv (iv b :: iv a :: st) := by
  obtain ⟨p, l, e, s, m, args, below, meth, c, D, ca, cells, slots, Z⟩ := X
  intro r σ' hq ok H locs ls hF hS hl
  exact lv_icmp_lt ok.1 ok.2.1 hd ht (fun h => by rw [if_pos (e32_lt.mp h)] at hq; exact kt r σ' hq ok H locs ls hF hS hl) (fun h => by rw [if_neg (fun g => h (e32_lt.mpr g))] at hq; exact kf r σ' hq ok H locs ls hF hS hl)
theorem s_if_lt {a off : Int} {tgt : Nat} (hd : decode cc pc = .ok (.ifCond .lt off, 3)) (ht : (pc : Int) + off = (tgt : Int)) (kt : Sim cc own nL R B X q1 σ tgt lv st) (kf : Sim cc own nL R B X q2 σ (pc + 3) lv st) : Sim cc own nL R B X (if w32 a < 0 then q1 else q2) σ pc lv (iv a :: st) := by
  obtain ⟨p, l, e, s, m, args, below, meth, c, D, ca, cells, slots, Z⟩ := X
  intro r σ' hq ok H locs ls hF hS hl
  exact lv_if_lt ok.1 ok.2.1 hd ht (fun h => by rw [if_pos (z32_lt.mp h)] at hq; exact kt r σ' hq ok H locs ls hF hS hl) (fun h => by rw [if_neg (fun g => h (z32_lt.mpr g))] at hq; exact kf r σ' hq ok H locs ls hF hS hl)
theorem s_lif_lt {a b off : Int} {tgt : Nat} (hd0 : decode cc pc = .ok (.lcmp, 1)) (hd : decode cc (pc + 1) = .ok (.ifCond .lt off, 3)) (ht : ((pc + 1 : Nat) : Int) + off = (tgt : Int)) (kt : Sim cc own nL R B X q1 σ tgt lv st) (kf : Sim cc own nL R B X q2 σ (pc + 4) lv st) : Sim cc own nL R B X (if w64 a < w64 b then q1 else q2) σ pc lv (jv b :: jv a :: st) := by
  obtain ⟨p, l, e, s, m, args, below, meth, c, D, ca, cells, slots, Z⟩ := X
  intro r σ' hq ok H locs ls hF hS hl
  exact W.lcmp ok.1 ok.2.1 hd0 (lv_if_lt ok.1 ok.2.1 hd ht (fun h => by rw [if_pos (l64_lt.mp h)] at hq; exact kt r σ' hq ok H locs ls hF hS hl) (fun h => by rw [if_neg (fun g => h (l64_lt.mpr g))] at hq; exact kf r σ' hq ok H locs ls hF hS hl))
theorem s_icmp_ge {a b off : Int} {tgt : Nat} (hd : decode cc pc = .ok (.if_icmp .ge off, 3)) (ht : (pc : Int) + off = (tgt : Int)) (kt : Sim cc own nL R B X q1 σ tgt lv st) (kf : Sim cc own nL R B X q2 σ (pc + 3) lv st) : Sim cc own nL R B X (if w32 b ≤ w32 a then q1 else q2) σ pc lv (iv b :: iv a :: st) := by
  obtain ⟨p, l, e, s, m, args, below, meth, c, D, ca, cells, slots, Z⟩ := X
  intro r σ' hq ok H locs ls hF hS hl
  exact lv_icmp_ge ok.1 ok.2.1 hd ht (fun h => by rw [if_pos (e32_le.mp h)] at hq; exact kt r σ' hq ok H locs ls hF hS hl) (fun h => by rw [if_neg (fun g => h (e32_le.mpr g))] at hq; exact kf r σ' hq ok H locs ls hF hS hl)
theorem s_if_ge {a off : Int} {tgt : Nat} (hd : decode cc pc = .ok (.ifCond .ge off, 3)) (ht : (pc : Int) + off = (tgt : Int)) (kt : Sim cc own nL R B X q1 σ tgt lv st) (kf : Sim cc own nL R B X q2 σ (pc + 3) lv st) : Sim cc own nL R B X (if 0 ≤ w32 a then q1 else q2) σ pc lv (iv a :: st) := by
  obtain ⟨p, l, e, s, m, args, below, meth, c, D, ca, cells, slots, Z⟩ := X
  intro r σ' hq ok H locs ls hF hS hl
  exact lv_if_ge ok.1 ok.2.1 hd ht (fun h => by rw [if_pos (z32_ge.mp h)] at hq; exact kt r σ' hq ok H locs ls hF hS hl) (fun h => by rw [if_neg (fun g => h (z32_ge.mpr g))] at hq; exact kf r σ' hq ok H locs ls hF hS hl)
theorem s_lif_ge {a b off : Int} {tgt : Nat} (hd0 : decode cc pc = .ok (.lcmp, 1)) (hd : decode cc (pc + 1) = .ok (.ifCond .ge off, 3)) (ht : ((pc + 1 : Nat) : Int) + off = (tgt : Int)) (kt : Sim cc own nL R B X q1 σ tgt lv st) (kf : Sim cc own nL R B X q2 σ (pc + 4) lv st) : Sim cc own nL R B X (if w64 b ≤ w64 a then q1 else q2) σ pc lv (jv b :: jv a :: st) := by
  obtain ⟨p, l, e, s, m, args, below, meth, c, D, ca, cells, slots, Z⟩ := X
  intro r σ' hq ok H locs ls hF hS hl
  exact W.lcmp ok.1 ok.2.1 hd0 (lv_if_ge ok.1 ok.2.1 hd ht (fun h => by rw [if_pos (l64_ge.mp h)] at hq; exact kt r σ' hq ok H locs ls hF hS hl) (fun h => by rw [if_neg (fun g => h (l64_ge.mpr g))] at hq; exact kf r σ' hq ok H locs ls hF hS hl))
theorem s_icmp_gt {a b off : Int} {tgt : Nat} (hd : decode cc pc = .ok (.if_icmp .gt off, 3)) (ht : (pc : Int) + off = (tgt : Int)) (kt : Sim cc own nL R B X q1 σ tgt lv st) (kf : Sim cc own nL R B X q2 σ (pc + 3) lv st) : Sim cc own nL R B X (if w32 b < w32 a then q1 else q2) σ pc lv (iv b :: iv a :: st) := by
  obtain ⟨p, l, e, s, m, args, below, meth, c, D, ca, cells, slots, Z⟩ := X
  intro r σ' hq ok H locs ls hF hS hl
  exact lv_icmp_gt ok.1 ok.2.1 hd ht (fun h => by rw [if_pos (e32_lt.mp h)] at hq; exact kt r σ' hq ok H locs ls hF hS hl) (fun h => by rw [if_neg (fun g => h (e32_lt.mpr g))] at hq; exact kf r σ' hq ok H locs ls hF hS hl)
theorem s_if_gt {a off : Int} {tgt : Nat} (hd : decode cc pc = .ok (.ifCond .gt off, 3)) (ht : (pc : Int) + off = (tgt : Int)) (kt : Sim cc own nL R B X q1 σ tgt lv st) (kf : Sim cc own nL R B X q2 σ (pc + 3) lv st) : Sim cc own nL R B X (if 0 < w32 a then q1 else q2) σ pc lv (iv a :: st) := by
  obtain ⟨p, l, e, s, m, args, below, meth, c, D, ca, cells, slots, Z⟩ := X
  intro r σ' hq ok H locs ls hF hS hl
  exact lv_if_gt ok.1 ok.2.1 hd ht (fun h => by rw [if_pos (z32_gt.mp h)] at hq; exact kt r σ' hq ok H locs ls hF hS hl) (fun h => by rw [if_neg (fun g => h (z32_gt.mpr g))] at hq; exact kf r σ' hq ok H locs ls hF hS hl)
theorem s_lif_gt {a b off : Int} {tgt : Nat} (hd0 : decode cc pc = .ok (.lcmp, 1)) (hd : decode cc (pc + 1) = .ok (.ifCond .gt off, 3)) (ht : ((pc + 1 : Nat) : Int) + off = (tgt : Int)) (kt : Sim cc own nL R B X q1 σ tgt lv st) (kf : Sim cc own nL R B X q2 σ (pc + 4) lv st) : Sim cc own nL R B X (if w64 b < w64 a then q1 else q2) σ pc lv (jv b :: jv a :: st) := by
  obtain ⟨p, l, e, s, m, args, below, meth, c, D, ca, cells, slots, Z⟩ := X
  intro r σ' hq ok H locs ls hF hS hl
  exact W.lcmp ok.1 ok.2.1 hd0 (lv_if_gt ok.1 ok.2.1 hd ht (fun h => by rw [if_pos (l64_gt.mp h)] at hq; exact kt r σ' hq ok H locs ls hF hS hl) (fun h => by rw [if_neg (fun g => h (l64_gt.mpr g))] at hq; exact kf r σ' hq ok H locs ls hF hS hl))
theorem s_icmp_le {a b off : Int} {tgt : Nat} (hd : decode cc pc = .ok (.if_icmp .le off, 3)) (ht : (pc : Int) + off = (tgt : Int)) (kt : Sim cc own nL R B X q1 σ tgt lv st) (kf : Sim cc own nL R B X q2 σ (pc + 3) lv st) : Sim cc own nL R B X (if w32 a ≤ w32 b then q1 else q2) σ pc lv (iv b :: iv a :: st) := by
  obtain ⟨p, l, e, s, m, args, below, meth, c, D, ca, cells, slots, Z⟩ := X
  intro r σ' hq ok H locs ls hF hS hl
  exact lv_icmp_le ok.1 ok.2.1 hd ht (fun h => by rw [if_pos (e32_le.mp h)] at hq; exact kt r σ' hq ok H locs ls hF hS hl) (fun h => by rw [if_neg (fun g => h (e32_le.mpr g))] at hq; exact kf r σ' hq ok H locs ls hF hS hl)
theorem s_if_le {a off : Int} {tgt : Nat} (hd : decode cc pc = .ok (.ifCond .le off, 3)) (ht : (pc : Int) + off = (tgt : Int)) (kt : Sim cc own nL R B X q1 σ tgt lv st) (kf : Sim cc own nL R B X q2 σ (pc + 3) lv st) : Sim cc own nL R B X (if w32 a ≤ 0 then q1 else q2) σ pc lv (iv a :: st) := by
  obtain ⟨p, l, e, s, m, args, below, meth, c, D, ca, cells, slots, Z⟩ := X
  intro r σ' hq ok H locs ls hF hS hl
  exact lv_if_le ok.1 ok.2.1 hd ht (fun h => by rw [if_pos (z32_le.mp h)] at hq; exact kt r σ' hq ok H locs ls hF hS hl) (fun h => by rw [if_neg (fun g => h (z32_le.mpr g))] at hq; exact kf r σ' hq ok H locs ls hF hS hl)
theorem s_lif_le {a b off : Int} {tgt : Nat} (hd0 : decode cc pc = .ok (.lcmp, 1)) (hd : decode cc (pc + 1) = .ok (.ifCond .le off, 3)) (ht : ((pc + 1 : Nat) : Int) + off = (tgt : Int)) (kt : Sim cc own nL R B X q1 σ tgt lv st) (kf : Sim cc own nL R B X q2 σ (pc + 4) lv st) : Sim cc own nL R B X (if w64 a ≤ w64 b then q1 else q2) σ pc lv (jv b :: jv a :: st) := by
  obtain ⟨p, l, e, s, m, args, below, meth, c, D, ca, cells, slots, Z⟩ := X
  intro r σ' hq ok H locs ls hF hS hl
  exact W.lcmp ok.1 ok.2.1 hd0 (lv_if_le ok.1 ok.2.1 hd ht (fun h => by rw [if_pos (l64_le.mp h)] at hq; exact kt r σ' hq ok H locs ls hF hS hl) (fun h => by rw [if_neg (fun g => h (l64_le.mpr g))] at hq; exact kf r σ' hq ok H locs ls hF hS hl))
theorem s_ite {c : Prop} {hc : Decidable c} (kt : c → Sim cc own nL R B X q1 σ pc lv st) (kf : ¬ c → Sim cc own nL R B X q2 σ pc lv st) : Sim cc own nL R B X (@ite PR c hc q1 q2) σ pc lv st := by
  by_cases h : c
  · rw [if_pos h]; exact kt h
  · rw [if_neg h]; exact kf h
theorem s_tabI {a dflt lo hi off : Int} {offs : Array Int} {len tgt : Nat} (hd : decode cc pc = .ok (.tableswitch dflt lo hi offs, len)) (v : Int) (hv : w32 a = v) (h1 : ¬ v < lo) (h2 : ¬ hi < v) (ho : offs[(v - lo).toNat]? = some off) (ht : (pc : Int) + off = (tgt : Int)) (k : Sim cc own nL R B X q σ tgt lv st) : Sim cc own nL R B X q σ pc lv (iv a :: st) := by
  obtain ⟨p, l, e, s, m, args, below, meth, c, D, ca, cells, slots, Z⟩ := X
  intro r σ' hq ok H locs ls hF hS hl
  subst hv
  exact lv_tableIn ok.1 ok.2.1 hd h1 h2 ho ht (by exact k r σ' hq ok H locs ls hF hS hl)
theorem s_tabO {a dflt lo hi : Int} {offs : Array Int} {len tgt : Nat} (hd : decode cc pc = .ok (.tableswitch dflt lo hi offs, len)) (h : w32 a < lo ∨ hi < w32 a) (ht : (pc : Int) + dflt = (tgt : Int)) (k : Sim cc own nL R B X q σ tgt lv st) : Sim cc own nL R B X q σ pc lv (iv a :: st) := by
  obtain ⟨p, l, e, s, m, args, below, meth, c, D, ca, cells, slots, Z⟩ := X
  intro r σ' hq ok H locs ls hF hS hl
  exact lv_tableOut ok.1 ok.2.1 hd h ht (by exact k r σ' hq ok H locs ls hF hS hl)
theorem s_lt {e : Int} {c : Int → PR} (k : Sim cc own nL R B X (c e) σ pc lv st) : Sim cc own nL R B X (lt e c) σ pc lv st := k
theorem s_lti {e : Int} {c : Int → PR} (k : ∀ x, Sim cc own nL R B X (c x) σ pc lv (iv x :: st)) : Sim cc own nL R B X (lt e c) σ pc lv (iv e :: st) := k e
theorem s_ltl {e : Int} {c : Int → PR} (k : ∀ x, Sim cc own nL R B X (c x) σ pc lv (jv x :: st)) : Sim cc own nL R B X (lt e c) σ pc lv (jv e :: st) := k e

/-- class ci's name, fields, how many; its layout words are among TB -/
def LayOk (ci : Nat) : Prop := ∃ C T N, vwCl[ci]? = some (C, T, N) ∧ (∀ w ∈ u_ws C T N, w ∈ TB) ∧ N = (fty ci).length ∧ ci < 8
/-- the link of a field: of class ci, number j, as own's entry idx -/
def FLk (own : String) (idx ci j : Nat) : Prop := ∃ C T N, vwCl[ci]? = some (C, T, N) ∧ Cond.fieldLink own idx (T j).1 (T j).2.1 (T j).2.2.1 ∈ TB ∧ j < N
theorem cellR_obj {B : Nat} {ca : Nat → ClassId} {f : Nat → Int} {d : Nat} (h : d < 8) : cellR B ca f d = .inr (d, flds B f (fty d)) := by simp [cellR, h]
theorem s_get0 {ci j t idx k : Nat} {p : Program} {l : Launch} {e : Env} {s : State} {m : MethodId} {args : Array Value} {below : List Frame} {meth : Method} {c : Code} {D : va_G} {ca : Nat → ClassId} {H : Heap} {locs : List Loc} {cells slots : Nat} {Q : State → Prop} {ls : Array Slot}
    (ok : Okx cc own nL p s m args c D ca R cells slots) (hF : FW D ca B σ H) (hd : decode cc pc = .ok (.getfield idx, 3)) (hly : LayOk ci) (hlk : FLk own idx ci j) (hk : kd k = ci) (ht : (fty ci)[j]? = some t)
    (kk : W p l e R s m args below meth c H locs cells slots Q (F0 m (pc + 3) ls (fv B t (σ k j) :: st))) : W p l e R s m args below meth c H locs cells slots Q (F0 m pc ls (rv B k :: st)) := by
  obtain ⟨C, T, N, h1, h2, h3, h4⟩ := hly
  obtain ⟨C', T', N', g1, g2, g3⟩ := hlk
  have he : (C, T, N) = (C', T', N') := Option.some.inj (h1.symm.trans g1)
  cases he
  have hkn : k < NN := kd_lt hk (by omega)
  have hcell : (wl B ca σ NN)[k]? = some (B + k, .inr (ci, flds B (σ k) (fty ci))) := by rw [wl_at hkn hk, cellR_obj h4]
  exact va_get (D := D) (cl := vwCl) (C := C) (T := T) (N := N) ok.1 ok.2.1 ok.2.2.2.2.1 h2 ok.2.2.2.1 ok.2.2.2.2.2.1 hF.1 k hcell h1 j g3 (ok.2.2.2.2.1 _ g2) (fun _ h => h) (flds_get ht) hd kk
theorem s_geti {ci j idx k : Nat} (hd : decode cc pc = .ok (.getfield idx, 3)) (hly : LayOk ci) (hlk : FLk own idx ci j) (hk : kd k = ci) (ht : (fty ci)[j]? = some 0) (kk : Sim cc own nL R B X q σ (pc + 3) lv (iv (σ k j) :: st)) : Sim cc own nL R B X q σ pc lv (rv B k :: st) := by
  obtain ⟨p, l, e, s, m, args, below, meth, c, D, ca, cells, slots, Z⟩ := X
  intro r σ' hq ok H locs ls hF hS hl
  exact s_get0 ok hF hd hly hlk hk ht (kk r σ' hq ok H locs ls hF hS hl)
theorem s_getl {ci j idx k : Nat} (hd : decode cc pc = .ok (.getfield idx, 3)) (hly : LayOk ci) (hlk : FLk own idx ci j) (hk : kd k = ci) (ht : (fty ci)[j]? = some 1) (kk : Sim cc own nL R B X q σ (pc + 3) lv (jv (σ k j) :: st)) : Sim cc own nL R B X q σ pc lv (rv B k :: st) := by
  obtain ⟨p, l, e, s, m, args, below, meth, c, D, ca, cells, slots, Z⟩ := X
  intro r σ' hq ok H locs ls hF hS hl
  exact s_get0 ok hF hd hly hlk hk ht (kk r σ' hq ok H locs ls hF hS hl)
theorem rfo_pos {v : Int} (h : 0 < v) : va_rf (rfo B v) = rv B (pl v) := by
  unfold rfo
  rw [if_neg (by omega)]
  rfl
/-- a reference that never changes -/
theorem s_getr {ci j idx k n k' : Nat} (hd : decode cc pc = .ok (.getfield idx, 3)) (hly : LayOk ci) (hlk : FLk own idx ci j) (hk : kd k = ci) (ht : (fty ci)[j]? = some 2) (hso : so ci j = n + 1) (hk' : k + (n + 1) = k') (kk : Sim cc own nL R B X q σ (pc + 3) lv (rv B k' :: st)) : Sim cc own nL R B X q σ pc lv (rv B k :: st) := by
  obtain ⟨p, l, e, s, m, args, below, meth, c, D, ca, cells, slots, Z⟩ := X
  intro r σ' hq ok H locs ls hF hS hl
  refine s_get0 ok hF hd hly hlk hk ht ?_
  have h1 := hF.2.1 k j (by rw [hk, hso]; omega)
  rw [hk, hso, hk'] at h1
  have h2 : fv B 2 (σ k j) = rv B k' := by
    show va_rf (rfo B (σ k j)) = _
    rw [rfo_pos (by rw [h1]; omega), h1]
    rfl
  rw [h2]
  exact kk r σ' hq ok H locs ls hF hS hl
/-- one that changes: an array of lines -/
theorem s_getd {ci j idx k : Nat} {c : Nat → PR} (hd : decode cc pc = .ok (.getfield idx, 3)) (hly : LayOk ci) (hlk : FLk own idx ci j) (hk : kd k = ci) (ht : (fty ci)[j]? = some 2) (hdy : dyf ci j = true) (kk : ∀ A, kd A = 5012 → Sim cc own nL R B X (c A) σ (pc + 3) lv (rv B A :: st)) : Sim cc own nL R B X (rfd (σ k j) c) σ pc lv (rv B k :: st) := by
  obtain ⟨p, l, e, s, m, args, below, meth, c, D, ca, cells, slots, Z⟩ := X
  intro r σ' hq ok H locs ls hF hS hl
  refine s_get0 ok hF hd hly hlk hk ht ?_
  have h1 := hF.2.2.1 k j (by rw [hk]; exact hdy)
  have h2 : fv B 2 (σ k j) = rv B (pl (σ k j)) := rfo_pos h1.1
  rw [h2]
  exact kk (pl (σ k j)) h1.2 r σ' hq ok H locs ls hF hS hl
def TyOk (ci : Nat) : Prop := ∃ C T N, ∃ ty0 : Nat → FieldType, vwCl[ci]? = some (C, T, N) ∧ (∀ k, k < N → parseFieldDescriptor (T k).2.2.1 = some (ty0 k)) ∧ (∀ a, a < N → ∀ b, b < N → a ≠ b → (T a).2.1 ≠ (T b).2.1)
/-- the field may be written, and v lies in its type -/
def PutOk (ci j : Nat) (v : Value) : Prop := ∃ C T N, ∃ ty : FieldType, vwCl[ci]? = some (C, T, N) ∧ (T j).2.2.2 = false ∧ parseFieldDescriptor (T j).2.2.1 = some ty ∧ narrow ty v = v ∧ fits ty v = true
theorem s_put0 {ci j t idx k : Nat} {v : Int} {p : Program} {l : Launch} {e : Env} {s : State} {m : MethodId} {args : Array Value} {below : List Frame} {meth : Method} {c : Code} {D : va_G} {ca : Nat → ClassId} {H : Heap} {locs : List Loc} {cells slots : Nat} {Q : State → Prop} {ls : Array Slot}
    (ok : Okx cc own nL p s m args c D ca R cells slots) (hF : FW D ca B σ H) (hS : va_S (fun a => B ≤ a) s.heap H locs) (hd : decode cc pc = .ok (.putfield idx, 3)) (hly : LayOk ci) (hty : TyOk ci) (hlk : FLk own idx ci j) (hk : kd k = ci) (ht : (fty ci)[j]? = some t) (hp : PutOk ci j (fv B t v)) (hSt : St (mset σ k j v)) (hVd : Vd (mset σ k j v))
    (kk : ∀ H1 locs1, FW D ca B (mset σ k j v) H1 → va_S (fun a => B ≤ a) s.heap H1 locs1 → W p l e R s m args below meth c H1 locs1 cells slots Q (F0 m (pc + 3) ls st)) : W p l e R s m args below meth c H locs cells slots Q (F0 m pc ls (fv B t v :: rv B k :: st)) := by
  obtain ⟨C, T, N, h1, h2, h3, h4⟩ := hly
  obtain ⟨C', T', N', g1, g2, g3⟩ := hlk
  have he : (C, T, N) = (C', T', N') := Option.some.inj (h1.symm.trans g1)
  cases he
  obtain ⟨C', T', N', ty0, f1, f2, f3⟩ := hty
  have he : (C, T, N) = (C', T', N') := Option.some.inj (h1.symm.trans f1)
  cases he
  obtain ⟨C', T', N', ty, e1, e2, e3, e4, e5⟩ := hp
  have he : (C, T, N) = (C', T', N') := Option.some.inj (h1.symm.trans e1)
  cases he
  have hkn : k < NN := kd_lt hk (by omega)
  have hcell : (wl B ca σ NN)[k]? = some (B + k, .inr (ci, flds B (σ k) (fty ci))) := by rw [wl_at hkn hk, cellR_obj h4]
  refine va_put (D := D) (cl := vwCl) (C := C) (T := T) (N := N) ok.1 ok.2.1 ok.2.2.2.2.1 h2 ty0 f2 f3 ok.2.2.2.1 ok.2.2.2.2.2.1 hF.1 wl_D hS k hcell h1 j g3 (ok.2.2.2.2.1 _ g2) (fun _ h => h) e2 e3 e4 e5 (by rw [flds_len, ← h3]; exact g3) hd (fun H1 locs1 hP _ hS1 => ?_)
  rw [flds_set ht, wl_set (j := j) (v := v) hkn hk (by rw [cellR_obj h4])] at hP
  exact kk H1 locs1 ⟨hP, hSt, hVd⟩ hS1
theorem s_puti {ci j idx k : Nat} {v : Int} {c : Mem → PR} (hd : decode cc pc = .ok (.putfield idx, 3)) (hly : LayOk ci) (hty : TyOk ci) (hlk : FLk own idx ci j) (hk : kd k = ci) (ht : (fty ci)[j]? = some 0) (hp : ∀ v : Int, PutOk ci j (iv v)) (hso : so ci j = 0 ∧ dyf ci j = false ∧ ci < 8) (kk : ∀ σ, Sim cc own nL R B X (c σ) σ (pc + 3) lv st) : Sim cc own nL R B X (stf σ k j v c) σ pc lv (iv v :: rv B k :: st) := by
  obtain ⟨p, l, e, s, m, args, below, meth, c, D, ca, cells, slots, Z⟩ := X
  intro r σ' hq ok H locs ls hF hS hl
  exact s_put0 (t := 0) ok hF hS hd hly hty hlk hk ht (hp v) (hF.2.1.put (by rw [hk]; exact hso.1)) (hF.2.2.put (by rw [hk]; exact hso.2.1) (by omega) (by omega)) (fun H1 locs1 hF1 hS1 => kk _ r σ' hq ok H1 locs1 ls hF1 hS1 hl)
theorem s_putz {ci j idx k : Nat} {v : Int} {c : Mem → PR} (hd : decode cc pc = .ok (.putfield idx, 3)) (hly : LayOk ci) (hty : TyOk ci) (hlk : FLk own idx ci j) (hk : kd k = ci) (ht : (fty ci)[j]? = some 0) (hp : PutOk ci j (iv 0) ∧ PutOk ci j (iv 1)) (hso : so ci j = 0 ∧ dyf ci j = false ∧ ci < 8) (kk : ∀ σ, Sim cc own nL R B X (c σ) σ (pc + 3) lv st) : Sim cc own nL R B X (stz σ k j v c) σ pc lv (iv v :: rv B k :: st) := by
  obtain ⟨p, l, e, s, m, args, below, meth, c, D, ca, cells, slots, Z⟩ := X
  intro r σ' hq ok H locs ls hF hS hl
  unfold stz at hq
  by_cases h01 : v = 0 ∨ v = 1
  · rw [if_pos h01] at hq
    exact s_put0 (t := 0) ok hF hS hd hly hty hlk hk ht (by rcases h01 with h | h <;> subst h; exact hp.1; exact hp.2) (hF.2.1.put (by rw [hk]; exact hso.1)) (hF.2.2.put (by rw [hk]; exact hso.2.1) (by omega) (by omega)) (fun H1 locs1 hF1 hS1 => kk _ r σ' hq ok H1 locs1 ls hF1 hS1 hl)
  · rw [if_neg h01] at hq; cases hq
theorem s_putl {ci j idx k : Nat} {v : Int} {c : Mem → PR} (hd : decode cc pc = .ok (.putfield idx, 3)) (hly : LayOk ci) (hty : TyOk ci) (hlk : FLk own idx ci j) (hk : kd k = ci) (ht : (fty ci)[j]? = some 1) (hp : ∀ v : Int, PutOk ci j (jv v)) (hso : so ci j = 0 ∧ dyf ci j = false ∧ ci < 8) (kk : ∀ σ, Sim cc own nL R B X (c σ) σ (pc + 3) lv st) : Sim cc own nL R B X (stf σ k j v c) σ pc lv (jv v :: rv B k :: st) := by
  obtain ⟨p, l, e, s, m, args, below, meth, c, D, ca, cells, slots, Z⟩ := X
  intro r σ' hq ok H locs ls hF hS hl
  exact s_put0 (t := 1) ok hF hS hd hly hty hlk hk ht (hp v) (hF.2.1.put (by rw [hk]; exact hso.1)) (hF.2.2.put (by rw [hk]; exact hso.2.1) (by omega) (by omega)) (fun H1 locs1 hF1 hS1 => kk _ r σ' hq ok H1 locs1 ls hF1 hS1 hl)
theorem pl_succ (A : Nat) : pl ((A + 1 : Nat) : Int) = A := by simp [pl]
theorem Vd.putd {σ : Mem} {k j A : Nat} (h : Vd σ) (h0 : kd k < 8) (hA : kd A = 5012) : Vd (mset σ k j ((A + 1 : Nat) : Int)) := by
  refine ⟨fun a b hab => ?_, fun a ha i hi => ?_, fun i hi => ?_⟩
  · by_cases ha : a = k
    · subst ha
      by_cases hb : b = j
      · subst hb; rw [mset_same, pl_succ]; exact ⟨by omega, hA⟩
      · rw [mset_slot _ _ _ hb]; exact h.1 a b hab
    · rw [mset_place _ _ _ ha]; exact h.1 a b hab
  · rw [mset_place _ _ _ (fun e => by rw [← e, ha] at h0; omega)]; exact h.2.1 a ha i hi
  · rw [mset_place _ _ _ (fun e => by rw [← e] at h0; revert h0; decide +kernel)]; exact h.2.2 i hi
theorem s_putd {ci j idx k A : Nat} {c : Mem → PR} (hd : decode cc pc = .ok (.putfield idx, 3)) (hly : LayOk ci) (hty : TyOk ci) (hlk : FLk own idx ci j) (hk : kd k = ci) (ht : (fty ci)[j]? = some 2) (hp : ∀ a : Nat, PutOk ci j (.ref a)) (hso : so ci j = 0 ∧ ci < 8) (hA : kd A = 5012) (kk : ∀ σ, Sim cc own nL R B X (c σ) σ (pc + 3) lv st) : Sim cc own nL R B X (stf σ k j ((A + 1 : Nat) : Int) c) σ pc lv (rv B A :: rv B k :: st) := by
  obtain ⟨p, l, e, s, m, args, below, meth, c, D, ca, cells, slots, Z⟩ := X
  intro r σ' hq ok H locs ls hF hS hl
  have hv : fv B 2 ((A + 1 : Nat) : Int) = rv B A := by
    unfold fv
    rw [if_neg (by decide), if_neg (by decide), rfo_pos (by omega), pl_succ]
  rw [← hv]
  exact s_put0 (t := 2) ok hF hS hd hly hty hlk hk ht (by rw [hv]; exact hp _) (hF.2.1.put (by rw [hk]; exact hso.1)) (hF.2.2.putd (by omega) hA) (fun H1 locs1 hF1 hS1 => kk _ r σ' hq ok H1 locs1 ls hF1 hS1 hl)


theorem cell_i {B : Nat} {ca : Nat → ClassId} {f : Nat → Int} {t n : Nat} (ht : t = 1 ∨ t = 2 ∨ t = 4) (hn : n < 1000) : cellR B ca f (1000 * t + n) = .inl (ca t, n, .inl fun i => Int32.ofInt (f i)) := by
  unfold cellR
  have h1 : (1000 * t + n) / 1000 = t := by omega
  have h2 : (1000 * t + n) % 1000 = n := by omega
  rw [if_neg (by omega), h1, h2, if_neg (by omega), if_neg (by omega)]
theorem cell_l {B : Nat} {ca : Nat → ClassId} {f : Nat → Int} {n : Nat} (hn : n < 1000) : cellR B ca f (1000 * 3 + n) = .inl (ca 3, n, .inr (.inl fun i => Int64.ofInt (f i))) := by
  unfold cellR
  have h1 : (1000 * 3 + n) / 1000 = 3 := by omega
  have h2 : (1000 * 3 + n) % 1000 = n := by omega
  rw [if_neg (by omega), h1, h2, if_pos rfl]
theorem cell_q {B : Nat} {ca : Nat → ClassId} {f : Nat → Int} {t n : Nat} (ht : t = 5 ∨ t = 6) (hn : n < 1000) : cellR B ca f (1000 * t + n) = .inl (ca t, n, .inr (.inr (.inr (.inr fun i => rfo B (f i))))) := by
  unfold cellR
  have h1 : (1000 * t + n) / 1000 = t := by omega
  have h2 : (1000 * t + n) % 1000 = n := by omega
  rw [if_neg (by omega), h1, h2, if_neg (by omega), if_pos ht]

theorem s_iald (n : Nat) {k : Nat} {i : Int} {c : Int → PR} (hd : decode cc pc = .ok (.iaload, 1)) (hk : kd k = 1000 * 2 + n) (hn : n < 1000) (kk : ∀ v, Sim cc own nL R B X (c v) σ (pc + 1) lv (iv v :: st)) : Sim cc own nL R B X (rdI σ k n i c) σ pc lv (iv i :: rv B k :: st) := by
  obtain ⟨p, l, e, s, m, args, below, meth, c, D, ca, cells, slots, Z⟩ := X
  intro r σ' hq ok H locs ls hF hS hl
  unfold rdI at hq
  by_cases h : 0 ≤ w32 i ∧ w32 i < n
  · rw [if_pos h] at hq
    have hcell := wl_at (B := B) (ca := ca) (σ := σ) (n := NN) (kd_lt hk (by omega)) hk
    rw [cell_i (t := 2) (by decide) hn] at hcell
    exact va_iald (D := D) (cl := vwCl) ok.1 ok.2.1 ok.2.2.2.2.2.1 hF.1 k 1 hcell rfl (in_of32 h) hd (kk _ r σ' hq ok H locs ls hF hS hl)
  · rw [if_neg h] at hq; cases hq
theorem s_zald (n : Nat) {k : Nat} {i : Int} {c : Int → PR} (hd : decode cc pc = .ok (.baload, 1)) (hk : kd k = 1000 * 4 + n) (hn : n < 1000) (kk : ∀ v, Sim cc own nL R B X (c v) σ (pc + 1) lv (iv v :: st)) : Sim cc own nL R B X (rdI σ k n i c) σ pc lv (iv i :: rv B k :: st) := by
  obtain ⟨p, l, e, s, m, args, below, meth, c, D, ca, cells, slots, Z⟩ := X
  intro r σ' hq ok H locs ls hF hS hl
  unfold rdI at hq
  by_cases h : 0 ≤ w32 i ∧ w32 i < n
  · rw [if_pos h] at hq
    have hcell := wl_at (B := B) (ca := ca) (σ := σ) (n := NN) (kd_lt hk (by omega)) hk
    rw [cell_i (t := 4) (by decide) hn] at hcell
    exact va_zald (D := D) (cl := vwCl) ok.1 ok.2.1 ok.2.2.2.2.2.1 hF.1 k 3 hcell rfl (in_of32 h) hd (kk _ r σ' hq ok H locs ls hF hS hl)
  · rw [if_neg h] at hq; cases hq
theorem s_bald (n : Nat) {k : Nat} {i : Int} {c : Int → PR} (hd : decode cc pc = .ok (.baload, 1)) (hk : kd k = 1000 * 1 + n) (hn : n < 1000) (kk : ∀ v, Sim cc own nL R B X (c v) σ (pc + 1) lv (iv v :: st)) : Sim cc own nL R B X (rdI σ k n i c) σ pc lv (iv i :: rv B k :: st) := by
  obtain ⟨p, l, e, s, m, args, below, meth, c, D, ca, cells, slots, Z⟩ := X
  intro r σ' hq ok H locs ls hF hS hl
  unfold rdI at hq
  by_cases h : 0 ≤ w32 i ∧ w32 i < n
  · rw [if_pos h] at hq
    have hcell := wl_at (B := B) (ca := ca) (σ := σ) (n := NN) (kd_lt hk (by omega)) hk
    rw [cell_i (t := 1) (by decide) hn] at hcell
    exact va_bald (D := D) (cl := vwCl) ok.1 ok.2.1 ok.2.2.2.2.2.1 hF.1 k 0 hcell rfl (in_of32 h) hd (kk _ r σ' hq ok H locs ls hF hS hl)
  · rw [if_neg h] at hq; cases hq
theorem s_lald (n : Nat) {k : Nat} {i : Int} {c : Int → PR} (hd : decode cc pc = .ok (.laload, 1)) (hk : kd k = 1000 * 3 + n) (hn : n < 1000) (kk : ∀ v, Sim cc own nL R B X (c v) σ (pc + 1) lv (jv v :: st)) : Sim cc own nL R B X (rdI σ k n i c) σ pc lv (iv i :: rv B k :: st) := by
  obtain ⟨p, l, e, s, m, args, below, meth, c, D, ca, cells, slots, Z⟩ := X
  intro r σ' hq ok H locs ls hF hS hl
  unfold rdI at hq
  by_cases h : 0 ≤ w32 i ∧ w32 i < n
  · rw [if_pos h] at hq
    have hcell := wl_at (B := B) (ca := ca) (σ := σ) (n := NN) (kd_lt hk (by omega)) hk
    rw [cell_l hn] at hcell
    exact va_lald (D := D) (cl := vwCl) ok.1 ok.2.1 ok.2.2.2.2.2.1 hF.1 k 2 hcell rfl (in_of32 h) hd (kk _ r σ' hq ok H locs ls hF hS hl)
  · rw [if_neg h] at hq; cases hq
theorem upd32 {f : Nat → Int} {j : Nat} {v : Int} : upd (fun i => Int32.ofInt (f i)) j (Int32.ofInt v) = fun i => Int32.ofInt ((fun b => if b = j then v else f b) i) := by
  funext i
  by_cases h : i = j <;> simp [upd, h]
theorem upd64 {f : Nat → Int} {j : Nat} {v : Int} : vp_updL (fun i => Int64.ofInt (f i)) j (Int64.ofInt v) = fun i => Int64.ofInt ((fun b => if b = j then v else f b) i) := by
  funext i
  by_cases h : i = j <;> simp [vp_updL, h]
theorem so_arr {d j : Nat} (h : 8 ≤ d) : so d j = 0 := by
  have h1 : soT.getD d [] = [] := by
    rw [List.getD_eq_getElem?_getD, List.getElem?_eq_none (Nat.le_trans (Nat.le_of_eq (by decide +kernel)) h)]
    rfl
  unfold so
  rw [h1]
  rfl
theorem dyf_arr {d j : Nat} (h : 8 ≤ d) : dyf d j = false := by
  unfold dyf
  have h1 : (d == 2) = false := by simp; omega
  have h2 : (d == 5) = false := by simp; omega
  rw [h1, h2]
  rfl
theorem s_iast (n : Nat) {k : Nat} {i v : Int} {c : Mem → PR} (hd : decode cc pc = .ok (.iastore, 1)) (hk : kd k = 1000 * 2 + n) (hn : n < 1000) (kk : ∀ σ, Sim cc own nL R B X (c σ) σ (pc + 1) lv st) : Sim cc own nL R B X (wrI σ k n i (v) c) σ pc lv (iv v :: iv i :: rv B k :: st) := by
  obtain ⟨p, l, e, s, m, args, below, meth, c, D, ca, cells, slots, Z⟩ := X
  intro r σ' hq ok H locs ls hF hS hl
  unfold wrI at hq
  by_cases h : 0 ≤ w32 i ∧ w32 i < n
  · rw [if_pos h] at hq
    have hkn : k < NN := kd_lt hk (by omega)
    have hcell := wl_at (B := B) (ca := ca) (σ := σ) (n := NN) hkn hk
    rw [cell_i (t := 2) (by decide) hn] at hcell
    refine va_iast (D := D) (cl := vwCl) ok.1 ok.2.1 ok.2.2.2.2.2.1 hF.1 wl_D hS k 1 hcell rfl (in_of32 h) hd (fun H1 locs1 hP _ hS1 => ?_)
    rw [w32_nat, upd32, wl_set (j := (w32 i).toNat) (v := v) hkn hk (by rw [cell_i (t := 2) (by decide) hn])] at hP
    exact kk _ r σ' hq ok H1 locs1 ls ⟨hP, hF.2.1.put (by rw [hk]; exact so_arr (by omega)), hF.2.2.put (by rw [hk]; exact dyf_arr (by omega)) (by omega) (by omega)⟩ hS1 hl
  · rw [if_neg h] at hq; cases hq
theorem s_zast (n : Nat) {k : Nat} {i v : Int} {c : Mem → PR} (hd : decode cc pc = .ok (.bastore, 1)) (hk : kd k = 1000 * 4 + n) (hn : n < 1000) (kk : ∀ σ, Sim cc own nL R B X (c σ) σ (pc + 1) lv st) : Sim cc own nL R B X (wrI σ k n i (n1 v) c) σ pc lv (iv v :: iv i :: rv B k :: st) := by
  obtain ⟨p, l, e, s, m, args, below, meth, c, D, ca, cells, slots, Z⟩ := X
  intro r σ' hq ok H locs ls hF hS hl
  unfold wrI at hq
  by_cases h : 0 ≤ w32 i ∧ w32 i < n
  · rw [if_pos h] at hq
    have hkn : k < NN := kd_lt hk (by omega)
    have hcell := wl_at (B := B) (ca := ca) (σ := σ) (n := NN) hkn hk
    rw [cell_i (t := 4) (by decide) hn] at hcell
    refine va_zast (D := D) (cl := vwCl) ok.1 ok.2.1 ok.2.2.2.2.2.1 hF.1 wl_D hS k 3 hcell rfl (in_of32 h) hd (fun H1 locs1 hP _ hS1 => ?_)
    rw [show vp_nar .boolean (Int32.ofInt v) = Int32.ofInt (n1 v) from (Int32.ofInt_toInt _).symm] at hP
    rw [w32_nat, upd32, wl_set (j := (w32 i).toNat) (v := n1 v) hkn hk (by rw [cell_i (t := 4) (by decide) hn])] at hP
    exact kk _ r σ' hq ok H1 locs1 ls ⟨hP, hF.2.1.put (by rw [hk]; exact so_arr (by omega)), hF.2.2.put (by rw [hk]; exact dyf_arr (by omega)) (by omega) (by omega)⟩ hS1 hl
  · rw [if_neg h] at hq; cases hq
theorem s_bast (n : Nat) {k : Nat} {i v : Int} {c : Mem → PR} (hd : decode cc pc = .ok (.bastore, 1)) (hk : kd k = 1000 * 1 + n) (hn : n < 1000) (kk : ∀ σ, Sim cc own nL R B X (c σ) σ (pc + 1) lv st) : Sim cc own nL R B X (wrI σ k n i (n8 v) c) σ pc lv (iv v :: iv i :: rv B k :: st) := by
  obtain ⟨p, l, e, s, m, args, below, meth, c, D, ca, cells, slots, Z⟩ := X
  intro r σ' hq ok H locs ls hF hS hl
  unfold wrI at hq
  by_cases h : 0 ≤ w32 i ∧ w32 i < n
  · rw [if_pos h] at hq
    have hkn : k < NN := kd_lt hk (by omega)
    have hcell := wl_at (B := B) (ca := ca) (σ := σ) (n := NN) hkn hk
    rw [cell_i (t := 1) (by decide) hn] at hcell
    refine va_bast (D := D) (cl := vwCl) ok.1 ok.2.1 ok.2.2.2.2.2.1 hF.1 wl_D hS k 0 hcell rfl (in_of32 h) hd (fun H1 locs1 hP _ hS1 => ?_)
    rw [show vp_nar .byte (Int32.ofInt v) = Int32.ofInt (n8 v) from (Int32.ofInt_toInt _).symm] at hP
    rw [w32_nat, upd32, wl_set (j := (w32 i).toNat) (v := n8 v) hkn hk (by rw [cell_i (t := 1) (by decide) hn])] at hP
    exact kk _ r σ' hq ok H1 locs1 ls ⟨hP, hF.2.1.put (by rw [hk]; exact so_arr (by omega)), hF.2.2.put (by rw [hk]; exact dyf_arr (by omega)) (by omega) (by omega)⟩ hS1 hl
  · rw [if_neg h] at hq; cases hq
theorem s_last (n : Nat) {k : Nat} {i v : Int} {c : Mem → PR} (hd : decode cc pc = .ok (.lastore, 1)) (hk : kd k = 1000 * 3 + n) (hn : n < 1000) (kk : ∀ σ, Sim cc own nL R B X (c σ) σ (pc + 1) lv st) : Sim cc own nL R B X (wrI σ k n i (v) c) σ pc lv (jv v :: iv i :: rv B k :: st) := by
  obtain ⟨p, l, e, s, m, args, below, meth, c, D, ca, cells, slots, Z⟩ := X
  intro r σ' hq ok H locs ls hF hS hl
  unfold wrI at hq
  by_cases h : 0 ≤ w32 i ∧ w32 i < n
  · rw [if_pos h] at hq
    have hkn : k < NN := kd_lt hk (by omega)
    have hcell := wl_at (B := B) (ca := ca) (σ := σ) (n := NN) hkn hk
    rw [cell_l hn] at hcell
    refine va_last (D := D) (cl := vwCl) ok.1 ok.2.1 ok.2.2.2.2.2.1 hF.1 wl_D hS k 2 hcell rfl (in_of32 h) hd (fun H1 locs1 hP _ hS1 => ?_)
    rw [w32_nat, upd64, wl_set (j := (w32 i).toNat) (v := v) hkn hk (by rw [cell_l hn])] at hP
    exact kk _ r σ' hq ok H1 locs1 ls ⟨hP, hF.2.1.put (by rw [hk]; exact so_arr (by omega)), hF.2.2.put (by rw [hk]; exact dyf_arr (by omega)) (by omega) (by omega)⟩ hS1 hl
  · rw [if_neg h] at hq; cases hq
theorem s_aald {k : Nat} {i : Int} {c : Nat → PR} (hd : decode cc pc = .ok (.aaload, 1)) (hk : kd k = 5012) (kk : ∀ L, kd L = 1 → Sim cc own nL R B X (c L) σ (pc + 1) lv (rv B L :: st)) : Sim cc own nL R B X (rdR σ k 12 i c) σ pc lv (iv i :: rv B k :: st) := by
  obtain ⟨p, l, e, s, m, args, below, meth, c, D, ca, cells, slots, Z⟩ := X
  intro r σ' hq ok H locs ls hF hS hl
  unfold rdR at hq
  by_cases h : 0 ≤ w32 i ∧ w32 i < (12 : Nat)
  · rw [if_pos h] at hq
    have hcell := wl_at (B := B) (ca := ca) (σ := σ) (n := NN) (kd_lt hk (by omega)) hk
    rw [show (5012 : Nat) = 1000 * 5 + 12 from rfl, cell_q (by decide) (by decide)] at hcell
    have hv := hF.2.2.2.1 k hk (w32 i).toNat (by omega)
    refine va_aldq (D := D) (cl := vwCl) ok.1 ok.2.1 ok.2.2.2.2.2.1 hF.1 k 4 hcell rfl (in_of32 h) hd ?_
    rw [w32_nat, rfo_pos hv.1]
    exact kk _ hv.2 r σ' hq ok H locs ls hF hS hl
  · rw [if_neg h] at hq; cases hq
theorem s_aals {i : Int} {c : Nat → PR} (hd : decode cc pc = .ok (.aaload, 1)) (kk : ∀ L, kd L = 4 → Sim cc own nL R B X (c L) σ (pc + 1) lv (rv B L :: st)) : Sim cc own nL R B X (rdS i c) σ pc lv (iv i :: rv B 270 :: st) := by
  obtain ⟨p, l, e, s, m, args, below, meth, c, D, ca, cells, slots, Z⟩ := X
  intro r σ' hq ok H locs ls hF hS hl
  unfold rdS at hq
  by_cases h : 0 ≤ w32 i ∧ w32 i < 10
  · rw [if_pos h] at hq
    have hcell := wl_at (B := B) (ca := ca) (σ := σ) (n := NN) (k := 270) (by decide) kd_270
    rw [show (6010 : Nat) = 1000 * 6 + 10 from rfl, cell_q (by decide) (by decide)] at hcell
    have hv := hF.2.2.2.2 (w32 i).toNat (by omega)
    refine va_aldq (D := D) (cl := vwCl) ok.1 ok.2.1 ok.2.2.2.2.2.1 hF.1 270 5 hcell rfl (in_of32 h) hd ?_
    rw [w32_nat, hv, rfo_pos (by omega), pl_succ]
    exact kk _ (kdStop (by omega)) r σ' hq ok H locs ls hF hS hl
  · rw [if_neg h] at hq; cases hq
theorem Vd.puta {σ : Mem} {k j L : Nat} (h : Vd σ) (h0 : kd k = 5012) (hL : kd L = 1) : Vd (mset σ k j ((L + 1 : Nat) : Int)) := by
  refine ⟨fun a b hab => ?_, fun a ha i hi => ?_, fun i hi => ?_⟩
  · rw [mset_place _ _ _ (fun e => by rw [e, h0] at hab; rw [dyf_arr (by decide)] at hab; cases hab)]; exact h.1 a b hab
  · by_cases hk : a = k
    · subst hk
      by_cases hb : i = j
      · subst hb; rw [mset_same, pl_succ]; exact ⟨by omega, hL⟩
      · rw [mset_slot _ _ _ hb]; exact h.2.1 a ha i hi
    · rw [mset_place _ _ _ hk]; exact h.2.1 a ha i hi
  · rw [mset_place _ _ _ (fun e => by rw [← e] at h0; revert h0; decide +kernel)]; exact h.2.2 i hi
theorem s_aast {k L : Nat} {i : Int} {c : Mem → PR} (hd : decode cc pc = .ok (.aastore, 1)) (hk : kd k = 5012) (hL : kd L = 1) (kk : ∀ σ, Sim cc own nL R B X (c σ) σ (pc + 1) lv st) : Sim cc own nL R B X (wrI σ k 12 i ((L + 1 : Nat) : Int) c) σ pc lv (rv B L :: iv i :: rv B k :: st) := by
  obtain ⟨p, l, e, s, m, args, below, meth, c, D, ca, cells, slots, Z⟩ := X
  intro r σ' hq ok H locs ls hF hS hl
  unfold wrI at hq
  by_cases h : 0 ≤ w32 i ∧ w32 i < (12 : Nat)
  · rw [if_pos h] at hq
    have hkn : k < NN := kd_lt hk (by omega)
    have hcell := wl_at (B := B) (ca := ca) (σ := σ) (n := NN) hkn hk
    rw [show (5012 : Nat) = 1000 * 5 + 12 from rfl, cell_q (by decide) (by decide)] at hcell
    have hcl := wl_at (B := B) (ca := ca) (σ := σ) (n := NN) (kd_lt hL (by omega)) hL
    rw [cellR_obj (by decide)] at hcl
    refine va_astq (D := D) (cl := vwCl) (r := (RX1, TX1, 15)) ok.1 ok.2.1 ok.2.2.2.2.2.1 hF.1 wl_D hS k 4 L 1 hcell rfl hcl rfl (in_of32 h) hd (fun H1 locs1 hP _ hS1 => ?_)
    have hu : va_up (fun i => rfo B (σ k i)) (Int32.ofInt i).toNatClampNeg (some (B + L)) = fun b => rfo B ((fun b => if b = (w32 i).toNat then ((L + 1 : Nat) : Int) else σ k b) b) := by
      funext b
      rw [w32_nat]
      by_cases hb : b = (w32 i).toNat
      · simp only [va_up, hb, if_true]
        unfold rfo
        rw [if_neg (by omega)]
        simp
      · simp [va_up, hb]
    rw [hu, wl_set (j := (w32 i).toNat) (v := ((L + 1 : Nat) : Int)) hkn hk (by rw [show (5012 : Nat) = 1000 * 5 + 12 from rfl, cell_q (by decide) (by decide)])] at hP
    exact kk _ r σ' hq ok H1 locs1 ls ⟨hP, hF.2.1.put (by rw [hk]; exact so_arr (by omega)), hF.2.2.puta hk hL⟩ hS1 hl
  · rw [if_neg h] at hq; cases hq

end RULES
