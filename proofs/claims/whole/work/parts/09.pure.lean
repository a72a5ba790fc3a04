def max32 (a b : Int) : Int := if w32 a < w32 b then b else a
def min32 (a b : Int) : Int := if w32 b < w32 a then b else a
def abs32 (a : Int) : Int := if 0 ≤ w32 a then a else 0 - a
def max64 (a b : Int) : Int := if w64 b < w64 a then a else b
def min64 (a b : Int) : Int := if w64 b < w64 a then b else a
def abs64 (a : Int) : Int := if 0 < w64 a then a else -a
section MATH
variable {cc : ByteArray} {own : String} {nL : Nat} {R : Room} {B : Nat} {X : Ctx} {q : PR} {σ : Mem} {pc : Nat} {lv : List (Nat × Value)} {st : List Value}
theorem lt64 {a b : Int} : Int64.ofInt a < Int64.ofInt b ↔ w64 a < w64 b := Int64.lt_iff_toInt_lt
theorem gt64 {a : Int} : 0 < Int64.ofInt a ↔ 0 < w64 a := Int64.lt_iff_toInt_lt
theorem s_max32 {a b : Int} {idx : Nat} (hd : decode cc pc = .ok (.invokestatic idx, 3)) (hlk : Cond.methodLink own idx yJ9_max_7cf53 ∈ TB) (me : MeS yJ9_max_7cf53 cJ9_max_7cf53 2 (some .int) 2) (hR : 1 ≤ R.frames ∧ 23 ≤ R.locals) (hw : (st.map fun v => v.category).sum ≤ 8) (k : Sim cc own nL R B X q σ (pc + 3) lv (iv (max32 a b) :: st)) : Sim cc own nL R B X q σ pc lv (iv b :: iv a :: st) := by
  obtain ⟨p, l, e, s, m, args, below, meth, c, D, ca, cells, slots, Z⟩ := X
  intro r σ' hq ok H locs ls hF hS hl
  have hv : Int32.ofInt (max32 a b) = if Int32.ofInt a < Int32.ofInt b then Int32.ofInt b else Int32.ofInt a := by
    unfold max32
    by_cases h : w32 a < w32 b
    · rw [if_pos h, if_pos (e32_lt.mpr h)]
    · rw [if_neg h, if_neg (fun g => h (e32_lt.mp g))]
  have k := k r σ' hq ok H locs ls hF hS hl
  rw [show (iv (max32 a b) : Value) = Value.int (if Int32.ofInt a < Int32.ofInt b then Int32.ofInt b else Int32.ofInt a) from congrArg Value.int hv] at k
  exact va_mmax ok.1 ok.2.1 (ok.2.2.1.trans hl.1.symm) ok.2.2.2.1 (ok.2.2.2.2.1 _ hlk) (ok.2.2.2.2.1 _ me.2) (ok.2.2.2.2.1 _ me.1.2.1) (ok.2.2.2.2.1 _ me.1.1) hR.1 (by omega) ok.2.2.2.2.2.2.2.1 ok.2.2.2.2.2.2.2.2 hd k
theorem s_min32 {a b : Int} {idx : Nat} (hd : decode cc pc = .ok (.invokestatic idx, 3)) (hlk : Cond.methodLink own idx yJ9_min_7cf53 ∈ TB) (me : MeS yJ9_min_7cf53 cJ9_min_7cf53 2 (some .int) 2) (hR : 1 ≤ R.frames ∧ 23 ≤ R.locals) (hw : (st.map fun v => v.category).sum ≤ 8) (k : Sim cc own nL R B X q σ (pc + 3) lv (iv (min32 a b) :: st)) : Sim cc own nL R B X q σ pc lv (iv b :: iv a :: st) := by
  obtain ⟨p, l, e, s, m, args, below, meth, c, D, ca, cells, slots, Z⟩ := X
  intro r σ' hq ok H locs ls hF hS hl
  have hv : Int32.ofInt (min32 a b) = if Int32.ofInt b < Int32.ofInt a then Int32.ofInt b else Int32.ofInt a := by
    unfold min32
    by_cases h : w32 b < w32 a
    · rw [if_pos h, if_pos (e32_lt.mpr h)]
    · rw [if_neg h, if_neg (fun g => h (e32_lt.mp g))]
  have k := k r σ' hq ok H locs ls hF hS hl
  rw [show (iv (min32 a b) : Value) = Value.int (if Int32.ofInt b < Int32.ofInt a then Int32.ofInt b else Int32.ofInt a) from congrArg Value.int hv] at k
  exact va_mmin ok.1 ok.2.1 (ok.2.2.1.trans hl.1.symm) ok.2.2.2.1 (ok.2.2.2.2.1 _ hlk) (ok.2.2.2.2.1 _ me.2) (ok.2.2.2.2.1 _ me.1.2.1) (ok.2.2.2.2.1 _ me.1.1) hR.1 (by omega) ok.2.2.2.2.2.2.2.1 ok.2.2.2.2.2.2.2.2 hd k
theorem s_abs32 {a : Int} {idx : Nat} (hd : decode cc pc = .ok (.invokestatic idx, 3)) (hlk : Cond.methodLink own idx yJ9_abs_0f7a4 ∈ TB) (me : MeS yJ9_abs_0f7a4 cJ9_abs_0f7a4 1 (some .int) 1) (hR : 1 ≤ R.frames ∧ 23 ≤ R.locals) (hw : (st.map fun v => v.category).sum ≤ 8) (k : Sim cc own nL R B X q σ (pc + 3) lv (iv (abs32 a) :: st)) : Sim cc own nL R B X q σ pc lv (iv a :: st) := by
  obtain ⟨p, l, e, s, m, args, below, meth, c, D, ca, cells, slots, Z⟩ := X
  intro r σ' hq ok H locs ls hF hS hl
  have hv : Int32.ofInt (abs32 a) = if 0 ≤ Int32.ofInt a then Int32.ofInt a else 0 - Int32.ofInt a := by
    unfold abs32
    by_cases h : 0 ≤ w32 a
    · rw [if_pos h, if_pos (z32_ge.mpr h)]
    · rw [if_neg h, if_neg (fun g => h (z32_ge.mp g))]
      rw [Int32.ofInt_sub]; rfl
  have k := k r σ' hq ok H locs ls hF hS hl
  rw [show (iv (abs32 a) : Value) = Value.int (if 0 ≤ Int32.ofInt a then Int32.ofInt a else 0 - Int32.ofInt a) from congrArg Value.int hv] at k
  exact va_mabs ok.1 ok.2.1 (ok.2.2.1.trans hl.1.symm) ok.2.2.2.1 (ok.2.2.2.2.1 _ hlk) (ok.2.2.2.2.1 _ me.2) (ok.2.2.2.2.1 _ me.1.2.1) (ok.2.2.2.2.1 _ me.1.1) hR.1 (by omega) ok.2.2.2.2.2.2.2.1 ok.2.2.2.2.2.2.2.2 hd k
theorem s_max64 {a b : Int} {idx : Nat} (hd : decode cc pc = .ok (.invokestatic idx, 3)) (hlk : Cond.methodLink own idx yJ9_max_f86c9 ∈ TB) (me : MeS yJ9_max_f86c9 cJ9_max_f86c9 4 (some .long) 2) (hR : 1 ≤ R.frames ∧ 23 ≤ R.locals) (hw : (st.map fun v => v.category).sum ≤ 8) (k : Sim cc own nL R B X q σ (pc + 3) lv (jv (max64 a b) :: st)) : Sim cc own nL R B X q σ pc lv (jv b :: jv a :: st) := by
  obtain ⟨p, l, e, s, m, args, below, meth, c, D, ca, cells, slots, Z⟩ := X
  intro r σ' hq ok H locs ls hF hS hl
  have hv : Int64.ofInt (max64 a b) = if Int64.ofInt b < Int64.ofInt a then Int64.ofInt a else Int64.ofInt b := by
    unfold max64
    by_cases h : w64 b < w64 a
    · rw [if_pos h, if_pos (lt64.mpr h)]
    · rw [if_neg h, if_neg (fun g => h (lt64.mp g))]
  have k := k r σ' hq ok H locs ls hF hS hl
  rw [show (jv (max64 a b) : Value) = Value.long (if Int64.ofInt b < Int64.ofInt a then Int64.ofInt a else Int64.ofInt b) from congrArg Value.long hv] at k
  exact va_mmax_long ok.1 ok.2.1 (ok.2.2.1.trans hl.1.symm) ok.2.2.2.1 (ok.2.2.2.2.1 _ hlk) (ok.2.2.2.2.1 _ me.2) (ok.2.2.2.2.1 _ me.1.2.1) (ok.2.2.2.2.1 _ me.1.1) hR.1 (by omega) ok.2.2.2.2.2.2.2.1 ok.2.2.2.2.2.2.2.2 hd k
theorem s_min64 {a b : Int} {idx : Nat} (hd : decode cc pc = .ok (.invokestatic idx, 3)) (hlk : Cond.methodLink own idx yJ9_min_f86c9 ∈ TB) (me : MeS yJ9_min_f86c9 cJ9_min_f86c9 4 (some .long) 2) (hR : 1 ≤ R.frames ∧ 23 ≤ R.locals) (hw : (st.map fun v => v.category).sum ≤ 8) (k : Sim cc own nL R B X q σ (pc + 3) lv (jv (min64 a b) :: st)) : Sim cc own nL R B X q σ pc lv (jv b :: jv a :: st) := by
  obtain ⟨p, l, e, s, m, args, below, meth, c, D, ca, cells, slots, Z⟩ := X
  intro r σ' hq ok H locs ls hF hS hl
  have hv : Int64.ofInt (min64 a b) = if Int64.ofInt b < Int64.ofInt a then Int64.ofInt b else Int64.ofInt a := by
    unfold min64
    by_cases h : w64 b < w64 a
    · rw [if_pos h, if_pos (lt64.mpr h)]
    · rw [if_neg h, if_neg (fun g => h (lt64.mp g))]
  have k := k r σ' hq ok H locs ls hF hS hl
  rw [show (jv (min64 a b) : Value) = Value.long (if Int64.ofInt b < Int64.ofInt a then Int64.ofInt b else Int64.ofInt a) from congrArg Value.long hv] at k
  exact va_mmin_long ok.1 ok.2.1 (ok.2.2.1.trans hl.1.symm) ok.2.2.2.1 (ok.2.2.2.2.1 _ hlk) (ok.2.2.2.2.1 _ me.2) (ok.2.2.2.2.1 _ me.1.2.1) (ok.2.2.2.2.1 _ me.1.1) hR.1 (by omega) ok.2.2.2.2.2.2.2.1 ok.2.2.2.2.2.2.2.2 hd k
theorem s_abs64 {a : Int} {idx : Nat} (hd : decode cc pc = .ok (.invokestatic idx, 3)) (hlk : Cond.methodLink own idx yJ9_abs_067f4 ∈ TB) (me : MeS yJ9_abs_067f4 cJ9_abs_067f4 2 (some .long) 1) (hR : 1 ≤ R.frames ∧ 23 ≤ R.locals) (hw : (st.map fun v => v.category).sum ≤ 8) (k : Sim cc own nL R B X q σ (pc + 3) lv (jv (abs64 a) :: st)) : Sim cc own nL R B X q σ pc lv (jv a :: st) := by
  obtain ⟨p, l, e, s, m, args, below, meth, c, D, ca, cells, slots, Z⟩ := X
  intro r σ' hq ok H locs ls hF hS hl
  have hv : Int64.ofInt (abs64 a) = if 0 < Int64.ofInt a then Int64.ofInt a else -Int64.ofInt a := by
    unfold abs64
    by_cases h : 0 < w64 a
    · rw [if_pos h, if_pos (gt64.mpr h)]
    · rw [if_neg h, if_neg (fun g => h (gt64.mp g))]
      rw [Int64.ofInt_neg]
  have k := k r σ' hq ok H locs ls hF hS hl
  rw [show (jv (abs64 a) : Value) = Value.long (if 0 < Int64.ofInt a then Int64.ofInt a else -Int64.ofInt a) from congrArg Value.long hv] at k
  exact va_mabs_long ok.1 ok.2.1 (ok.2.2.1.trans hl.1.symm) ok.2.2.2.1 (ok.2.2.2.2.1 _ hlk) (ok.2.2.2.2.1 _ me.2) (ok.2.2.2.2.1 _ me.1.2.1) (ok.2.2.2.2.1 _ me.1.1) hR.1 (by omega) ok.2.2.2.2.2.2.2.1 ok.2.2.2.2.2.2.2.2 hd k
end MATH
def jn {α : Type} (k : α) (f : α → PR) : PR := f k
section JN
variable {cc : ByteArray} {own : String} {nL : Nat} {R : Room} {B : Nat} {X : Ctx} {σ : Mem} {pc : Nat} {lv : List (Nat × Value)} {st : List Value}
theorem s_jn {α : Type} {k : α} {f : α → PR} (K : α → Prop) (hk : K k) (h : ∀ j, K j → Sim cc own nL R B X (f j) σ pc lv st) : Sim cc own nL R B X (jn k f) σ pc lv st := h k hk
theorem s_ite1 {c : Prop} {hc : Decidable c} {q1 q2 : PR} (kt : c → Sim cc own nL R B X q1 σ pc lv st) (kf : Sim cc own nL R B X q2 σ pc lv st) : Sim cc own nL R B X (@ite PR c hc q1 q2) σ pc lv st := s_ite kt (fun _ => kf)
theorem s_none : Sim cc own nL R B X none σ pc lv st := by
  obtain ⟨p, l, e, s, m, args, below, meth, c, D, ca, cells, slots, Z⟩ := X
  intro r σ' hq
  cases hq
end JN
def fX6_parts (fu : Nat) (a0 : Int) (a1 : Int) (σ : Mem) : PR := jn (fun x1 s1 => some (x1, s1)) (fun (j1 : Int → Mem → PR) => if w64 1 ≤ w64 a1 then dv64 a1 (j1 (div64 a0 a1) σ) else j1 0 σ)
def fX1_time (fu : Nat) (th : Nat) (a0 : Int) (σ : Mem) : PR := rdI σ (th + 2) 8 a0 (fun x1 => rdI σ (th + 3) 8 a0 (fun x2 => some ((100 * x1) + x2, σ)))
def fX1_timeBetween_L5 (fu : Nat) (p1 : Nat) (c1 : Int) (k26 : Int → Mem → PR) : Nat → Int → Int → Mem → PR
  | 0, _, _, _ => none
  | n + 1, x1, x2, s1 => if w32 c1 ≤ w32 x2 then k26 x1 s1 else bnd (fX1_time fu p1 x2 s1) (fun x4 s2 => lt (x1 + x4) (fun x5 => fX1_timeBetween_L5 fu p1 c1 k26 n x5 (x2 + 1) s2))
def fX1_timeBetween (fu : Nat) (th : Nat) (a0 : Int) (a1 : Int) (σ : Mem) : PR := fX1_timeBetween_L5 fu th a1 (fun x6 s5 => some (x6, s5)) fu 0 a0 σ
def fX1_firstAt (fu : Nat) (th : Nat) (a0 : Int) (a1 : Int) (σ : Mem) : PR := bnd (fX1_timeBetween fu th 0 a0 σ) (fun x1 s1 => lt ((100 * (σ th 3)) + x1) (fun x2 => if w32 x2 < w32 a1 then bnd (fX6_parts fu ((((w32 (a1 - x2)) * (w32 (s1 th 0))) + 6000) - 1) 6000 s1) (fun x3 s2 => bnd (fX6_parts fu (x3 * 6000) (w32 (s2 th 0)) s2) (fun x4 s3 => some (x2 + x4, s3))) else some (x2, s1)))
def fX0_firstOf_L9 (fu : Nat) (p1 : Nat) (c1 : Int) (k70 : Int → Mem → PR) : Nat → Int → Int → Int → Mem → PR
  | 0, _, _, _, _ => none
  | n + 1, x1, x2, x3, s1 => if w32 (s1 p1 4) ≤ w32 x3 then k70 x1 s1 else rfd (s1 136 0) (fun p2 => rdI s1 (p1 + 1) 12 x3 (fun x5 => rdR s1 p2 12 x5 (fun p3 => rdI s1 (p1 + 2) 12 x3 (fun x6 => bnd (fX1_firstAt fu p3 x6 c1 s1) (fun x7 s2 => jn (fun x8 x9 s3 => fX0_firstOf_L9 fu p1 c1 k70 n x8 x9 (x3 + 1) s3) (fun (j1 : Int → Int → Mem → PR) => jn (fun s4 => j1 x3 x7 s4) (fun (j2 : Mem → PR) => if w32 x1 = w32 (-1) then j2 s2 else if w32 x2 ≤ w32 x7 then j1 x1 x2 s2 else j2 s2)))))))
def fX0_firstOf (fu : Nat) (a1 : Nat) (a2 : Int) (σ : Mem) : PR := fX0_firstOf_L9 fu a1 a2 (fun x10 s9 => some (x10, s9)) fu (-1) 0 0 σ
def fX0_keepRide (fu : Nat) (a0 : Int) (a1 : Int) (σ : Mem) : PR := jn (fun s1 => some (0, s1)) (fun (j1 : Mem → PR) => if w32 8 ≤ w32 (σ 325 2) then j1 σ else wrI σ 326 8 (σ 325 2) a0 (fun s2 => wrI s2 327 8 (s2 325 2) a1 (fun s3 => stf s3 325 2 ((s3 325 2) + 1) (fun s4 => j1 s4))))
def fX1_leftFrom_L4 (fu : Nat) (p1 : Nat) (k29 : Mem → PR) (k21 : Int → Mem → PR) : Nat → Int → Mem → PR
  | 0, _, _ => none
  | n + 1, x2, s1 => if w32 (s1 p1 1) ≤ w32 x2 then k29 s1 else rdI s1 (p1 + 7) 8 x2 (fun x4 => if w32 x4 = 0 then fX1_leftFrom_L4 fu p1 k29 k21 n (x2 + 1) s1 else k21 x2 s1)
def fX1_leftFrom (fu : Nat) (th : Nat) (a0 : Int) (σ : Mem) : PR := lt (a0 + 1) (fun x1 => fX1_leftFrom_L4 fu th (fun s5 => some (-1, s5)) (fun x5 s6 => some (x5, s6)) fu x1 σ)
def fX0_takes_L14 (fu : Nat) (c1 : Int) (k171 : Int → Mem → PR) (k92 : Int → Mem → PR) : Nat → Int → Int → Int → Mem → PR
  | 0, _, _, _, _ => none
  | n + 1, x1, x2, x3, s2 => if w32 10 ≤ w32 x3 then k171 x1 s2 else if w32 x2 = w32 (s2 136 4) then k171 x1 s2 else rdS x2 (fun p1 => bnd (fX0_firstOf fu p1 x1 s2) (fun x6 s3 => jn (fun x7 s4 => if w32 x7 ≠ w32 (-1) then rfd (s4 136 0) (fun p2 => rdI s4 (p1 + 1) 12 x6 (fun x8 => rdR s4 p2 12 x8 (fun p3 => rdI s4 (p1 + 2) 12 x6 (fun x9 => bnd (fX1_firstAt fu p3 x9 x1 s4) (fun x10 s5 => bnd (fX1_timeBetween fu p3 x9 x7 s5) (fun x11 s6 => lt (x10 + x11) (fun x12 => rdI s6 (p3 + 1) 8 x7 (fun x13 => rdI s6 (p1 + 1) 12 x6 (fun x14 => bnd (fX0_keepRide fu x14 x13 s6) (fun _ s7 => fX0_takes_L14 fu c1 k171 k92 n x12 x13 (x3 + 1) s7)))))))))) else k92 x1 s4) (fun (j1 : Int → Mem → PR) => if w32 x6 ≠ w32 (-1) then rfd (s3 136 0) (fun p4 => rdI s3 (p1 + 1) 12 x6 (fun x15 => rdR s3 p4 12 x15 (fun p5 => rdI s3 (p1 + 2) 12 x6 (fun x16 => bnd (fX1_leftFrom fu p5 x16 s3) (fun x17 s8 => j1 x17 s8))))) else j1 (-1) s3)))
def fX0_takes (fu : Nat) (a1 : Int) (a2 : Int) (σ : Mem) : PR := stf σ 325 2 0 (fun s1 => jn (fun x18 s13 => some (x18 - a2, s13)) (fun (j2 : Int → Mem → PR) => fX0_takes_L14 fu a2 (fun x19 s14 => j2 x19 s14) (fun x20 s15 => j2 x20 s15) fu a2 a1 0 s1))
def fX1_renew (fu : Nat) (th : Nat) (a0 : Int) (σ : Mem) : PR := stf σ th 0 a0 (fun s1 => stf s1 th 1 0 (fun s2 => stf s2 th 2 50 (fun s3 => stf s3 th 3 0 (fun s4 => stz s4 th 4 0 (fun s5 => some (0, s5))))))
def fX1_lead (fu : Nat) (th : Nat) (a0 : Int) (a1 : Int) (σ : Mem) : PR := if w32 (σ th 1) < w32 8 then jn (fun s1 => wrI s1 (th + 1) 8 (s1 th 1) a1 (fun s2 => stf s2 th 1 ((s2 th 1) + 1) (fun s3 => some (0, s3)))) (fun (j1 : Mem → PR) => if w32 (σ th 1) ≤ 0 then j1 σ else wrI σ (th + 2) 8 ((σ th 1) - 1) a0 (fun s4 => wrI s4 (th + 3) 8 ((s4 th 1) - 1) 0 (fun s5 => wrI s5 (th + 4) 8 ((s5 th 1) - 1) 0 (fun s6 => j1 s6)))) else some (0, σ)
def fX1_becomeReturnOf_L15 (fu : Nat) (p1 : Nat) (p2 : Nat) (k41 : Mem → PR) : Nat → Int → Mem → PR
  | 0, _, _ => none
  | n + 1, x2, s2 => if w32 x2 < 0 then k41 s2 else rdI s2 (p2 + 2) 8 x2 (fun x3 => rdI s2 (p2 + 1) 8 x2 (fun x4 => bnd (fX1_lead fu p1 x3 x4 s2) (fun _ s3 => fX1_becomeReturnOf_L15 fu p1 p2 k41 n (x2 + (-1)) s3)))
def fX1_becomeReturnOf (fu : Nat) (th : Nat) (a0 : Nat) (σ : Mem) : PR := bnd (fX1_renew fu th (σ a0 0) σ) (fun _ s1 => lt ((s1 a0 1) - 1) (fun x1 => fX1_becomeReturnOf_L15 fu th a0 (fun s6 => some (0, s6)) fu x1 s1))
def fX1_copyWay_L10 (fu : Nat) (p1 : Nat) (p2 : Nat) (k58 : Mem → PR) : Nat → Int → Mem → PR
  | 0, _, _ => none
  | n + 1, x1, s2 => if w32 8 ≤ w32 x1 then k58 s2 else rdI s2 (p2 + 1) 8 x1 (fun x2 => wrI s2 (p1 + 1) 8 x1 x2 (fun s3 => rdI s3 (p2 + 2) 8 x1 (fun x3 => wrI s3 (p1 + 2) 8 x1 x3 (fun s4 => rdI s4 (p2 + 3) 8 x1 (fun x4 => wrI s4 (p1 + 3) 8 x1 x4 (fun s5 => fX1_copyWay_L10 fu p1 p2 k58 n (x1 + 1) s5))))))
def fX1_copyWay (fu : Nat) (th : Nat) (a0 : Nat) (σ : Mem) : PR := stf σ th 1 (σ a0 1) (fun s1 => fX1_copyWay_L10 fu th a0 (fun s8 => some (0, s8)) fu 0 s1)
def fX1_omit_L52 (fu : Nat) (p1 : Nat) (k110 : Mem → PR) : Nat → Int → Mem → PR
  | 0, _, _ => none
  | n + 1, x5, s4 => if w32 (s4 p1 1) ≤ w32 (x5 + 1) then k110 s4 else rdI s4 (p1 + 1) 8 (x5 + 1) (fun x6 => wrI s4 (p1 + 1) 8 x5 x6 (fun s5 => rdI s5 (p1 + 2) 8 (x5 + 1) (fun x7 => wrI s5 (p1 + 2) 8 x5 x7 (fun s6 => rdI s6 (p1 + 3) 8 (x5 + 1) (fun x8 => wrI s6 (p1 + 3) 8 x5 x8 (fun s7 => fX1_omit_L52 fu p1 k110 n (x5 + 1) s7))))))
def fX1_omit (fu : Nat) (th : Nat) (a0 : Int) (σ : Mem) : PR := jn (fun s1 => some (0, s1)) (fun (j1 : Mem → PR) => if w32 a0 < w32 1 then j1 σ else if w32 a0 < w32 ((σ th 1) - 1) then rdI σ (th + 2) 8 (a0 - 1) (fun x1 => rdI σ (th + 2) 8 a0 (fun x2 => wrI σ (th + 2) 8 (a0 - 1) (x1 + x2) (fun s2 => rdI s2 (th + 3) 8 (a0 - 1) (fun x3 => rdI s2 (th + 3) 8 a0 (fun x4 => wrI s2 (th + 3) 8 (a0 - 1) (x3 + x4) (fun s3 => fX1_omit_L52 fu th (fun s10 => stf s10 th 1 ((s10 th 1) - 1) (fun s11 => some (0, s11))) fu a0 s3)))))) else j1 σ)
def fX1_isHalt (fu : Nat) (th : Nat) (a0 : Int) (σ : Mem) : PR := jn (fun x1 s1 => rtz x1 s1) (fun (j1 : Int → Mem → PR) => jn (fun s2 => j1 0 s2) (fun (j2 : Mem → PR) => if w32 a0 < 0 then j2 σ else if w32 (σ th 1) ≤ w32 a0 then j2 σ else j1 1 σ))
def fX1_isStep (fu : Nat) (th : Nat) (a0 : Int) (σ : Mem) : PR := jn (fun x1 s1 => rtz x1 s1) (fun (j1 : Int → Mem → PR) => jn (fun s2 => j1 0 s2) (fun (j2 : Mem → PR) => if w32 a0 < 0 then j2 σ else if w32 ((σ th 1) - 1) ≤ w32 a0 then j2 σ else j1 1 σ))
def fX1_goesTo_L2 (fu : Nat) (p1 : Nat) (c1 : Int) (k28 : Mem → PR) (k20 : Mem → PR) : Nat → Int → Mem → PR
  | 0, _, _ => none
  | n + 1, x1, s1 => if w32 (s1 p1 1) ≤ w32 x1 then k28 s1 else rdI s1 (p1 + 1) 8 x1 (fun x2 => if w32 x2 ≠ w32 c1 then fX1_goesTo_L2 fu p1 c1 k28 k20 n (x1 + 1) s1 else k20 s1)
def fX1_goesTo (fu : Nat) (th : Nat) (a0 : Int) (σ : Mem) : PR := fX1_goesTo_L2 fu th a0 (fun s5 => rtz 0 s5) (fun s6 => rtz 1 s6) fu 0 σ
def fX1_findRides_L9 (fu : Nat) (p1 : Nat) (k112 : Mem → PR) : Nat → Int → Int → Mem → PR
  | 0, _, _, _ => none
  | n + 1, x2, x3, s1 => if w32 x3 < 0 then k112 s1 else jn (fun x4 s2 => rdI s2 (p1 + 1) 8 x3 (fun x5 => rdS x5 (fun p2 => lt (s2 p2 2) (fun x6 => jn (fun x7 s3 => jn (fun x8 s4 => wrI s4 (p1 + 6) 8 x3 x4 (fun s5 => wrI s5 (p1 + 5) 8 x3 x8 (fun s6 => wrI s6 (p1 + 7) 8 x3 (n1 x7) (fun s7 => fX1_findRides_L9 fu p1 k112 n x8 (x3 + (-1)) s7)))) (fun (j3 : Int → Mem → PR) => if w32 x7 = 0 then j3 x4 s3 else j3 x6 s3)) (fun (j2 : Int → Mem → PR) => jn (fun s9 => j2 0 s9) (fun (j4 : Mem → PR) => if w32 x6 = w32 (-1) then j4 s2 else jn (fun s10 => j2 1 s10) (fun (j5 : Mem → PR) => if w32 x4 = w32 (-1) then j5 s2 else if w32 x4 < w32 x6 then j4 s2 else j5 s2))))))) (fun (j1 : Int → Mem → PR) => if w32 x2 ≠ w32 (-1) then bnd (fX1_time fu p1 x3 s1) (fun x9 s14 => j1 (x9 + x2) s14) else j1 (-1) s1)
def fX1_findRides (fu : Nat) (th : Nat) (σ : Mem) : PR := lt ((σ th 1) - 1) (fun x1 => fX1_findRides_L9 fu th (fun s18 => some (0, s18)) fu (-1) x1 σ)
def fX1_forgetLoads_L2 (fu : Nat) (p1 : Nat) (k35 : Mem → PR) : Nat → Int → Mem → PR
  | 0, _, _ => none
  | n + 1, x1, s1 => if w32 8 ≤ w32 x1 then k35 s1 else wrI s1 (p1 + 8) 8 x1 0 (fun s2 => wrI s2 (p1 + 9) 8 x1 0 (fun s3 => wrI s3 (p1 + 10) 8 x1 0 (fun s4 => fX1_forgetLoads_L2 fu p1 k35 n (x1 + 1) s4)))
def fX1_forgetLoads (fu : Nat) (th : Nat) (σ : Mem) : PR := fX1_forgetLoads_L2 fu th (fun s7 => some (0, s7)) fu 0 σ
def fX1_carry_L23 (fu : Nat) (p1 : Nat) (c1 : Int) (c2 : Int) (k46 : Mem → PR) : Nat → Int → Mem → PR
  | 0, _, _ => none
  | n + 1, x3, s3 => if w32 c1 ≤ w32 x3 then k46 s3 else rdI s3 (p1 + 8) 8 x3 (fun x4 => wrI s3 (p1 + 8) 8 x3 (x4 + c2) (fun s4 => fX1_carry_L23 fu p1 c1 c2 k46 n (x3 + 1) s4))
def fX1_carry (fu : Nat) (th : Nat) (a0 : Int) (a1 : Int) (a2 : Int) (σ : Mem) : PR := rdI σ (th + 9) 8 a0 (fun x1 => wrI σ (th + 9) 8 a0 (x1 + a2) (fun s1 => rdI s1 (th + 10) 8 a1 (fun x2 => wrI s1 (th + 10) 8 a1 (x2 + a2) (fun s2 => fX1_carry_L23 fu th a1 a2 (fun s7 => some (0, s7)) fu a0 s2))))
def fX1_allEntering_L4 (fu : Nat) (p1 : Nat) (k27 : Int → Mem → PR) : Nat → Int → Int → Mem → PR
  | 0, _, _, _ => none
  | n + 1, x1, x2, s1 => if w32 (s1 p1 1) ≤ w32 x2 then k27 x1 s1 else rdI s1 (p1 + 9) 8 x2 (fun x4 => lt (x1 + x4) (fun x5 => fX1_allEntering_L4 fu p1 k27 n x5 (x2 + 1) s1))
def fX1_allEntering (fu : Nat) (th : Nat) (σ : Mem) : PR := fX1_allEntering_L4 fu th (fun x6 s4 => some (x6, s4)) fu 0 0 σ
def fX1_fullestStep_L4 (fu : Nat) (p1 : Nat) (k37 : Int → Mem → PR) : Nat → Int → Int → Mem → PR
  | 0, _, _, _ => none
  | n + 1, x1, x2, s1 => if w32 ((s1 p1 1) - 1) ≤ w32 x2 then k37 x1 s1 else rdI s1 (p1 + 8) 8 x2 (fun x4 => rdI s1 (p1 + 8) 8 x1 (fun x5 => jn (fun x6 s2 => fX1_fullestStep_L4 fu p1 k37 n x6 (x2 + 1) s2) (fun (j1 : Int → Mem → PR) => if w32 x4 ≤ w32 x5 then j1 x1 s1 else j1 x2 s1)))
def fX1_fullestStep (fu : Nat) (th : Nat) (σ : Mem) : PR := fX1_fullestStep_L4 fu th (fun x7 s6 => some (x7, s6)) fu 0 1 σ
def fX1_averageLoads_L5 (fu : Nat) (p1 : Nat) (c1 : Int) (c2 : Int) (k109 : Int → Mem → PR) : Nat → Int → Int → Mem → PR
  | 0, _, _, _ => none
  | n + 1, x1, x2, s1 => if w32 ((s1 p1 1) - 1) ≤ w32 x2 then k109 x1 s1 else rdI s1 (p1 + 8) 8 x2 (fun x4 => rdI s1 (p1 + 4) 8 x2 (fun x5 => lt (x4 - x5) (fun x6 => lt (x1 + (abs32 x6)) (fun x7 => rdI s1 (p1 + 4) 8 x2 (fun x8 => bnd (fX6_parts fu (w32 x6) (w32 c1) s1) (fun x9 s2 => wrI s2 (p1 + 4) 8 x2 (x8 + x9) (fun s3 => rdI s3 (p1 + 4) 8 x2 (fun x10 => bnd (fX6_parts fu ((w32 c2) * (w32 x10)) ((w32 (s3 p1 2)) * (w32 (s3 p1 0))) s3) (fun x11 s4 => wrI s4 (p1 + 3) 8 x2 (min64 x11 100000) (fun s5 => fX1_averageLoads_L5 fu p1 c1 c2 k109 n x7 (x2 + 1) s5))))))))))
def fX1_averageLoads (fu : Nat) (th : Nat) (a0 : Int) (a1 : Int) (σ : Mem) : PR := fX1_averageLoads_L5 fu th a0 a1 (fun x12 s8 => some (x12, s8)) fu 0 0 σ
def fX2_hasLine (fu : Nat) (a0 : Int) (σ : Mem) : PR := jn (fun x1 s1 => rtz x1 s1) (fun (j1 : Int → Mem → PR) => jn (fun s2 => j1 0 s2) (fun (j2 : Mem → PR) => if w32 a0 < 0 then j2 σ else if w32 (σ 136 1) ≤ w32 a0 then j2 σ else j1 1 σ))
def fX2_hasHalt (fu : Nat) (a0 : Int) (a1 : Int) (σ : Mem) : PR := bnd (fX2_hasLine fu a0 σ) (fun x1 s1 => jn (fun x2 s2 => rtz x2 s2) (fun (j1 : Int → Mem → PR) => jn (fun s3 => j1 0 s3) (fun (j2 : Mem → PR) => if w32 x1 = 0 then j2 s1 else rfd (s1 136 0) (fun p1 => rdR s1 p1 12 a0 (fun p2 => bnd (fX1_isHalt fu p2 a1 s1) (fun x3 s4 => if w32 x3 = 0 then j2 s4 else j1 1 s4))))))
def fX2_hasStep (fu : Nat) (a0 : Int) (a1 : Int) (σ : Mem) : PR := bnd (fX2_hasLine fu a0 σ) (fun x1 s1 => jn (fun x2 s2 => rtz x2 s2) (fun (j1 : Int → Mem → PR) => jn (fun s3 => j1 0 s3) (fun (j2 : Mem → PR) => if w32 x1 = 0 then j2 s1 else rfd (s1 136 0) (fun p1 => rdR s1 p1 12 a0 (fun p2 => bnd (fX1_isStep fu p2 a1 s1) (fun x3 s4 => if w32 x3 = 0 then j2 s4 else j1 1 s4))))))
def fX2_replaceLines_L33 (fu : Nat) (k55 : Mem → PR) : Nat → Int → Mem → PR
  | 0, _, _ => none
  | n + 1, x1, s5 => if w32 10 ≤ w32 x1 then k55 s5 else rdS x1 (fun p3 => stz s5 p3 1 0 (fun s6 => fX2_replaceLines_L33 fu k55 n (x1 + 1) s6))
def fX2_replaceLines (fu : Nat) (σ : Mem) : PR := rfd (σ 136 0) (fun p1 => rfd (σ 1 2) (fun p2 => stf σ 136 0 ((p2 + 1 : Nat) : Int) (fun s1 => stf s1 1 2 ((p1 + 1 : Nat) : Int) (fun s2 => stf s2 136 1 (s2 1 3) (fun s3 => stf s3 136 6 0 (fun s4 => fX2_replaceLines_L33 fu (fun s9 => some (0, s9)) fu 0 s4))))))
def fX2_appendLines_L2 (fu : Nat) (k67 : Mem → PR) : Nat → Int → Mem → PR
  | 0, _, _ => none
  | n + 1, x1, s1 => if w32 (s1 1 3) ≤ w32 x1 then k67 s1 else if w32 12 ≤ w32 (s1 136 1) then k67 s1 else rfd (s1 136 0) (fun p1 => rdR s1 p1 12 (s1 136 1) (fun p2 => rfd (s1 136 0) (fun p3 => rfd (s1 1 2) (fun p4 => rdR s1 p4 12 x1 (fun p5 => wrI s1 p3 12 (s1 136 1) ((p5 + 1 : Nat) : Int) (fun s2 => rfd (s2 1 2) (fun p6 => wrI s2 p6 12 x1 ((p2 + 1 : Nat) : Int) (fun s3 => stf s3 136 1 ((s3 136 1) + 1) (fun s4 => fX2_appendLines_L2 fu k67 n (x1 + 1) s4)))))))))
def fX2_appendLines (fu : Nat) (σ : Mem) : PR := fX2_appendLines_L2 fu (fun s7 => some (0, s7)) fu 0 σ
def fX2_removeLine_L9 (fu : Nat) (p3 : Nat) (k39 : Mem → PR) : Nat → Int → Mem → PR
  | 0, _, _ => none
  | n + 1, x1, s1 => if w32 (s1 136 1) ≤ w32 (x1 + 1) then k39 s1 else rfd (s1 136 0) (fun p4 => rfd (s1 136 0) (fun p5 => rdR s1 p5 12 (x1 + 1) (fun p6 => wrI s1 p4 12 x1 ((p6 + 1 : Nat) : Int) (fun s2 => fX2_removeLine_L9 fu p3 k39 n (x1 + 1) s2))))
def fX2_removeLine (fu : Nat) (a0 : Int) (σ : Mem) : PR := rfd (σ 136 0) (fun p1 => rdR σ p1 12 a0 (fun p2 => fX2_removeLine_L9 fu p2 (fun s5 => stf s5 136 1 ((s5 136 1) - 1) (fun s6 => rfd (s6 136 0) (fun p7 => wrI s6 p7 12 (s6 136 1) ((p2 + 1 : Nat) : Int) (fun s7 => some (0, s7))))) fu a0 σ))
def fX6_bit (fu : Nat) (a0 : Int) (σ : Mem) : PR := jn (fun x1 s1 => some (x1, s1)) (fun (j1 : Int → Mem → PR) => if w32 a0 = 0 then j1 0 σ else j1 1 σ)
def fX2_outLines_L4 (fu : Nat) (k35 : Int → Mem → PR) : Nat → Int → Int → Mem → PR
  | 0, _, _, _ => none
  | n + 1, x1, x2, s1 => if w32 (s1 136 1) ≤ w32 x2 then k35 x1 s1 else rfd (s1 136 0) (fun p1 => rdR s1 p1 12 x2 (fun p2 => bnd (fX6_bit fu (s1 p2 4) s1) (fun x4 s2 => lt (or32 x1 (shl32 x4 x2)) (fun x5 => fX2_outLines_L4 fu k35 n x5 (x2 + 1) s2))))
def fX2_outLines (fu : Nat) (σ : Mem) : PR := fX2_outLines_L4 fu (fun x6 s5 => some (x6, s5)) fu 0 0 σ
def fX2_bringBack_L2 (fu : Nat) (c1 : Int) (k35 : Mem → PR) : Nat → Int → Mem → PR
  | 0, _, _ => none
  | n + 1, x1, s1 => if w32 (s1 136 1) ≤ w32 x1 then k35 s1 else jn (fun s2 => fX2_bringBack_L2 fu c1 k35 n (x1 + 1) s2) (fun (j1 : Mem → PR) => if w32 (and32 (shr32 c1 x1) 1) ≠ w32 1 then j1 s1 else rfd (s1 136 0) (fun p1 => rdR s1 p1 12 x1 (fun p2 => stz s1 p2 4 0 (fun s3 => j1 s3))))
def fX2_bringBack (fu : Nat) (a0 : Int) (σ : Mem) : PR := fX2_bringBack_L2 fu a0 (fun s7 => some (0, s7)) fu 0 σ
def fX2_closedStops_L4 (fu : Nat) (k33 : Int → Mem → PR) : Nat → Int → Int → Mem → PR
  | 0, _, _, _ => none
  | n + 1, x1, x2, s1 => if w32 10 ≤ w32 x2 then k33 x1 s1 else rdS x2 (fun p1 => bnd (fX6_bit fu (s1 p1 1) s1) (fun x4 s2 => lt (or32 x1 (shl32 x4 x2)) (fun x5 => fX2_closedStops_L4 fu k33 n x5 (x2 + 1) s2)))
def fX2_closedStops (fu : Nat) (σ : Mem) : PR := fX2_closedStops_L4 fu (fun x6 s5 => some (x6, s5)) fu 0 0 σ
def fX2_allRiders_L4 (fu : Nat) (k28 : Int → Mem → PR) : Nat → Int → Int → Mem → PR
  | 0, _, _, _ => none
  | n + 1, x1, x2, s1 => if w32 10 ≤ w32 x2 then k28 x1 s1 else rdS x2 (fun p1 => lt (x1 + (s1 p1 0)) (fun x4 => fX2_allRiders_L4 fu k28 n x4 (x2 + 1) s1))
def fX2_allRiders (fu : Nat) (σ : Mem) : PR := fX2_allRiders_L4 fu (fun x5 s4 => some (x5, s4)) fu 0 0 σ
def fX2_allSteps_L4 (fu : Nat) (k32 : Int → Mem → PR) : Nat → Int → Int → Mem → PR
  | 0, _, _, _ => none
  | n + 1, x1, x2, s1 => if w32 (s1 136 1) ≤ w32 x2 then k32 x1 s1 else rfd (s1 136 0) (fun p1 => rdR s1 p1 12 x2 (fun p2 => lt (x1 + ((s1 p2 1) - 1)) (fun x4 => fX2_allSteps_L4 fu k32 n x4 (x2 + 1) s1)))
def fX2_allSteps (fu : Nat) (σ : Mem) : PR := fX2_allSteps_L4 fu (fun x5 s4 => some (x5, s4)) fu 0 0 σ
def fX2_waitingWeight (fu : Nat) (σ : Mem) : PR := some (60 * (w32 (σ 136 3)), σ)
def fX4_choose_L3 (fu : Nat) (p1 : Nat) (p2 : Nat) (k104 : Int → Mem → PR) : Nat → Int → Mem → PR
  | 0, _, _ => none
  | n + 1, x1, s1 => if w32 (s1 p1 3) ≤ w32 (s1 p1 4) then k104 x1 s1 else jn (fun s2 => rdI s2 (p1 + 1) 12 (s2 p1 4) (fun x3 => rdR s2 p2 12 x3 (fun p3 => lt (s2 p3 0) (fun x4 => rdI s2 (p1 + 3) 12 (s2 p1 4) (fun x5 => lt (x1 + ((w32 x4) * (w32 x5))) (fun x6 => stf s2 p1 5 ((s2 p1 5) + x4) (fun s3 => stf s3 p1 4 ((s3 p1 4) + 1) (fun s4 => fX4_choose_L3 fu p1 p2 k104 n x6 s4)))))))) (fun (j1 : Mem → PR) => if w32 (s1 p1 4) = 0 then j1 s1 else rdI s1 (p1 + 3) 12 (s1 p1 4) (fun x7 => bnd (fX6_parts fu x1 (w32 (s1 p1 5)) s1) (fun x8 s5 => if w64 x8 ≤ w64 (w32 x7) then k104 x1 s5 else j1 s5)))
def fX4_choose (fu : Nat) (th : Nat) (a0 : Int) (a1 : Nat) (σ : Mem) : PR := fX4_choose_L3 fu th a1 (fun x9 s9 => jn (fun x10 s10 => some (x10, s10)) (fun (j2 : Int → Mem → PR) => if w32 (s9 th 4) ≠ 0 then bnd (fX6_parts fu x9 (w32 (s9 th 5)) s9) (fun x11 s11 => j2 x11 s11) else j2 (-1) s9)) fu a0 σ
def fX2_chooseAll_L4 (fu : Nat) (k79 : Int → Mem → PR) : Nat → Int → Int → Mem → PR
  | 0, _, _, _ => none
  | n + 1, x1, x2, s1 => if w32 10 ≤ w32 x2 then k79 x1 s1 else rdS x2 (fun p1 => jn (fun x4 s2 => fX2_chooseAll_L4 fu k79 n x4 (x2 + 1) s2) (fun (j1 : Int → Mem → PR) => if w32 x2 = w32 (s1 136 4) then j1 x1 s1 else if w32 (s1 p1 1) ≠ 0 then j1 x1 s1 else lt (s1 p1 2) (fun x5 => bnd (fX2_waitingWeight fu s1) (fun x6 s3 => rfd (s3 136 0) (fun p2 => bnd (fX4_choose fu p1 x6 p2 s3) (fun x7 s4 => stf s4 p1 2 x7 (fun s5 => jn (fun x8 s6 => j1 x8 s6) (fun (j2 : Int → Mem → PR) => jn (fun s7 => j2 1 s7) (fun (j3 : Mem → PR) => if w32 x1 ≠ 0 then j3 s5 else if w32 (s5 p1 2) = w32 x5 then j2 0 s5 else j3 s5)))))))))
def fX2_chooseAll (fu : Nat) (σ : Mem) : PR := fX2_chooseAll_L4 fu (fun x9 s13 => rtz x9 s13) fu 0 0 σ
def fX4_forgetOffers (fu : Nat) (th : Nat) (σ : Mem) : PR := stf σ th 3 0 (fun s1 => stf s1 th 4 0 (fun s2 => stf s2 th 5 0 (fun s3 => some (0, s3))))
def fX4_offer_L16 (fu : Nat) (p1 : Nat) (c1 : Int) (c2 : Int) (c3 : Int) (k88 : Int → Mem → PR) : Nat → Int → Mem → PR
  | 0, _, _ => none
  | n + 1, x2, s1 => if w32 x2 ≤ 0 then k88 x2 s1 else rdI s1 (p1 + 3) 12 (x2 - 1) (fun x4 => if w32 x4 ≤ w32 c3 then k88 x2 s1 else rdI s1 (p1 + 1) 12 (x2 - 1) (fun x5 => wrI s1 (p1 + 1) 12 x2 x5 (fun s2 => rdI s2 (p1 + 2) 12 (x2 - 1) (fun x6 => wrI s2 (p1 + 2) 12 x2 x6 (fun s3 => rdI s3 (p1 + 3) 12 (x2 - 1) (fun x7 => wrI s3 (p1 + 3) 12 x2 x7 (fun s4 => fX4_offer_L16 fu p1 c1 c2 c3 k88 n (x2 + (-1)) s4)))))))
def fX4_offer (fu : Nat) (th : Nat) (a0 : Int) (a1 : Int) (a2 : Int) (σ : Mem) : PR := if w32 (σ th 3) < w32 12 then lt (σ th 3) (fun x1 => fX4_offer_L16 fu th a0 a1 a2 (fun x8 s7 => wrI s7 (th + 1) 12 x8 a0 (fun s8 => wrI s8 (th + 2) 12 x8 a1 (fun s9 => wrI s9 (th + 3) 12 x8 a2 (fun s10 => stf s10 th 3 ((s10 th 3) + 1) (fun s11 => some (0, s11)))))) fu x1 σ) else some (0, σ)
def fX2_collectOffers_L2 (fu : Nat) (k23 : Mem → PR) : Nat → Int → Mem → PR
  | 0, _, _ => none
  | n + 1, x1, s1 => if w32 10 ≤ w32 x1 then k23 s1 else rdS x1 (fun p1 => bnd (fX4_forgetOffers fu p1 s1) (fun _ s2 => fX2_collectOffers_L2 fu k23 n (x1 + 1) s2))
def fX2_collectOffers_L50 (fu : Nat) (c1 : Int) (p4 : Nat) (k131 : Mem → PR) : Nat → Int → Mem → PR
  | 0, _, _ => none
  | n + 1, x3, s8 => if w32 ((s8 p4 1) - 1) ≤ w32 x3 then k131 s8 else if w32 (s8 p4 4) ≠ 0 then k131 s8 else rdI s8 (p4 + 1) 8 x3 (fun x4 => rdI s8 (p4 + 6) 8 x3 (fun x5 => jn (fun s9 => fX2_collectOffers_L50 fu c1 p4 k131 n (x3 + 1) s9) (fun (j1 : Mem → PR) => if w32 x5 = w32 (-1) then j1 s8 else if w32 x4 = w32 (s8 136 4) then j1 s8 else rdS x4 (fun p5 => if w32 (s8 p5 1) ≠ 0 then j1 s8 else rdS x4 (fun p6 => rdI s8 (p4 + 6) 8 x3 (fun x6 => bnd (fX4_offer fu p6 c1 x3 x6 s8) (fun _ s10 => j1 s10)))))))
def fX2_collectOffers_L25 (fu : Nat) (k137 : Mem → PR) : Nat → Int → Mem → PR
  | 0, _, _ => none
  | n + 1, x2, s6 => if w32 (s6 136 1) ≤ w32 x2 then k137 s6 else rfd (s6 136 0) (fun p2 => rdR s6 p2 12 x2 (fun p3 => bnd (fX1_findRides fu p3 s6) (fun _ s7 => fX2_collectOffers_L50 fu x2 p3 (fun s14 => fX2_collectOffers_L25 fu k137 n (x2 + 1) s14) fu 0 s7)))
def fX2_collectOffers (fu : Nat) (σ : Mem) : PR := fX2_collectOffers_L2 fu (fun s5 => fX2_collectOffers_L25 fu (fun s17 => some (0, s17)) fu 0 s5) fu 0 σ
def fX2_findCosts_L2 (fu : Nat) (k48 : Mem → PR) : Nat → Int → Mem → PR
  | 0, _, _ => none
  | n + 1, x1, s1 => if w32 10 ≤ w32 x1 then k48 s1 else rdS x1 (fun p1 => jn (fun x2 s2 => stf s2 p1 2 x2 (fun s3 => fX2_findCosts_L2 fu k48 n (x1 + 1) s3)) (fun (j1 : Int → Mem → PR) => jn (fun s4 => j1 (-1) s4) (fun (j2 : Mem → PR) => if w32 x1 ≠ w32 (s1 136 4) then j2 s1 else rdS x1 (fun p2 => if w32 (s1 p2 1) ≠ 0 then j2 s1 else j1 0 s1))))
def fX2_findCosts_L55 (fu : Nat) (k91 : Mem → PR) : Nat → Int → Mem → PR
  | 0, _, _ => none
  | n + 1, x3, s11 => if w32 x3 = 0 then k91 s11 else if w32 1000 ≤ w32 (s11 136 7) then k91 s11 else bnd (fX2_collectOffers fu s11) (fun _ s12 => bnd (fX2_chooseAll fu s12) (fun x4 s13 => stf s13 136 7 ((s13 136 7) + 1) (fun s14 => fX2_findCosts_L55 fu k91 n x4 s14)))
def fX2_findCosts (fu : Nat) (σ : Mem) : PR := fX2_findCosts_L2 fu (fun s9 => stf s9 136 7 0 (fun s10 => fX2_findCosts_L55 fu (fun s17 => some (0, s17)) fu 1 s10)) fu 0 σ
def fX4_takenLines_L4 (fu : Nat) (p1 : Nat) (k29 : Int → Mem → PR) : Nat → Int → Int → Mem → PR
  | 0, _, _, _ => none
  | n + 1, x1, x2, s1 => if w32 (s1 p1 4) ≤ w32 x2 then k29 x1 s1 else rdI s1 (p1 + 1) 12 x2 (fun x4 => lt (or32 x1 (shl32 1 x4)) (fun x5 => fX4_takenLines_L4 fu p1 k29 n x5 (x2 + 1) s1))
def fX4_takenLines (fu : Nat) (th : Nat) (σ : Mem) : PR := fX4_takenLines_L4 fu th (fun x6 s4 => some (x6, s4)) fu 0 0 σ
def fX4_takes (fu : Nat) (th : Nat) (a0 : Int) (σ : Mem) : PR := bnd (fX4_takenLines fu th σ) (fun x1 s1 => jn (fun x2 s2 => rtz x2 s2) (fun (j1 : Int → Mem → PR) => if w32 (and32 (shr32 x1 a0) 1) ≠ w32 1 then j1 0 s1 else j1 1 s1))
def fX2_isTaken (fu : Nat) (a0 : Int) (a1 : Int) (σ : Mem) : PR := rfd (σ 136 0) (fun p1 => rdR σ p1 12 a0 (fun p2 => rdI σ (p2 + 1) 8 a1 (fun x1 => rdS x1 (fun p3 => bnd (fX4_takes fu p3 a0 σ) (fun x2 s1 => rtz x2 s1)))))
def fX2_stopsWithin_L4 (fu : Nat) (c1 : Int) (k52 : Int → Mem → PR) : Nat → Int → Int → Mem → PR
  | 0, _, _, _ => none
  | n + 1, x1, x2, s1 => if w32 10 ≤ w32 x2 then k52 x1 s1 else rdS x2 (fun p1 => lt (s1 p1 2) (fun x4 => jn (fun x5 s2 => bnd (fX6_bit fu x5 s2) (fun x6 s3 => lt (or32 x1 (shl32 x6 x2)) (fun x7 => fX2_stopsWithin_L4 fu c1 k52 n x7 (x2 + 1) s3))) (fun (j1 : Int → Mem → PR) => jn (fun s4 => j1 0 s4) (fun (j2 : Mem → PR) => if w32 x4 = w32 (-1) then j2 s1 else if w32 c1 < w32 x4 then j2 s1 else j1 1 s1))))
def fX2_stopsWithin (fu : Nat) (a0 : Int) (σ : Mem) : PR := fX2_stopsWithin_L4 fu a0 (fun x8 s9 => some (x8, s9)) fu 0 0 σ
def fX2_linesInNoSet_L4 (fu : Nat) (k28 : Int → Mem → PR) : Nat → Int → Int → Mem → PR
  | 0, _, _, _ => none
  | n + 1, x1, x2, s1 => if w32 10 ≤ w32 x2 then k28 x1 s1 else rdS x2 (fun p1 => bnd (fX4_takenLines fu p1 s1) (fun x4 s2 => lt (or32 x1 x4) (fun x5 => fX2_linesInNoSet_L4 fu k28 n x5 (x2 + 1) s2)))
def fX2_linesInNoSet (fu : Nat) (σ : Mem) : PR := fX2_linesInNoSet_L4 fu (fun x6 s5 => some (and32 ((shl32 1 (s5 136 1)) - 1) (xor32 x6 (-1)), s5)) fu 0 0 σ
def fX2_orderStops_L39 (fu : Nat) (c1 : Int) (k91 : Int → Mem → PR) : Nat → Int → Mem → PR
  | 0, _, _ => none
  | n + 1, x3, s4 => if w32 x3 ≤ 0 then k91 x3 s4 else rdI s4 271 10 (x3 - 1) (fun x5 => rdS x5 (fun p2 => rdS c1 (fun p3 => if w32 (s4 p3 2) ≤ w32 (s4 p2 2) then k91 x3 s4 else rdI s4 271 10 (x3 - 1) (fun x6 => wrI s4 271 10 x3 x6 (fun s5 => fX2_orderStops_L39 fu c1 k91 n (x3 + (-1)) s5)))))
def fX2_orderStops_L7 (fu : Nat) (k114 : Mem → PR) : Nat → Int → Mem → PR
  | 0, _, _ => none
  | n + 1, x1, s2 => if w32 10 ≤ w32 x1 then k114 s2 else jn (fun s3 => fX2_orderStops_L7 fu k114 n (x1 + 1) s3) (fun (j1 : Mem → PR) => if w32 x1 = w32 (s2 136 4) then j1 s2 else rdS x1 (fun p1 => if w32 (s2 p1 2) = w32 (-1) then j1 s2 else lt (s2 136 11) (fun x2 => fX2_orderStops_L39 fu x1 (fun x7 s8 => wrI s8 271 10 x7 x1 (fun s9 => stf s9 136 11 ((s9 136 11) + 1) (fun s10 => j1 s10))) fu x2 s2)))
def fX2_orderStops (fu : Nat) (σ : Mem) : PR := stf σ 136 11 0 (fun s1 => fX2_orderStops_L7 fu (fun s14 => some (0, s14)) fu 0 s1)
def fX2_boardsBySet_L5 (fu : Nat) (p1 : Nat) (k85 : Int → Mem → PR) : Nat → Int → Int → Mem → PR
  | 0, _, _, _ => none
  | n + 1, x1, x2, s1 => if w32 (s1 p1 4) ≤ w32 x2 then k85 x1 s1 else rfd (s1 136 0) (fun p2 => rdI s1 (p1 + 1) 12 x2 (fun x4 => rdR s1 p2 12 x4 (fun p3 => rdI s1 (p1 + 2) 12 x2 (fun x5 => bnd (fX1_leftFrom fu p3 x5 s1) (fun x6 s2 => jn (fun x7 s3 => fX2_boardsBySet_L5 fu p1 k85 n x7 (x2 + 1) s3) (fun (j1 : Int → Mem → PR) => if w32 x6 = w32 (-1) then j1 x1 s2 else rdI s2 (p3 + 1) 8 x6 (fun x8 => rdS x8 (fun p4 => lt (x1 + ((w32 (s2 p3 0)) * (w32 (1000 + (s2 p4 7))))) (fun x9 => j1 x9 s2)))))))))
def fX2_boardsBySet (fu : Nat) (a0 : Nat) (σ : Mem) : PR := fX2_boardsBySet_L5 fu a0 (fun x10 s7 => bnd (fX6_parts fu x10 (w32 (s7 a0 5)) s7) (fun x11 s8 => some (x11, s8))) fu 0 0 σ
def fX2_findBoards_L24 (fu : Nat) (k63 : Mem → PR) : Nat → Int → Mem → PR
  | 0, _, _ => none
  | n + 1, x2, s3 => if w32 x2 < 0 then k63 s3 else rdI s3 271 10 x2 (fun x3 => rdS x3 (fun p2 => rdI s3 271 10 x2 (fun x4 => rdS x4 (fun p3 => bnd (fX2_boardsBySet fu p3 s3) (fun x5 s4 => stf s4 p2 7 x5 (fun s5 => fX2_findBoards_L24 fu k63 n (x2 + (-1)) s5))))))
def fX2_findBoards (fu : Nat) (σ : Mem) : PR := bnd (fX2_orderStops fu σ) (fun _ s1 => rdS (s1 136 4) (fun p1 => stf s1 p1 7 0 (fun s2 => lt ((s2 136 11) - 1) (fun x1 => fX2_findBoards_L24 fu (fun s8 => some (0, s8)) fu x1 s2))))
def fX2_carry (fu : Nat) (a0 : Nat) (a1 : Int) (a2 : Int) (σ : Mem) : PR := bnd (fX1_leftFrom fu a0 a1 σ) (fun x1 s1 => jn (fun s2 => some (0, s2)) (fun (j1 : Mem → PR) => if w32 x1 = w32 (-1) then j1 s1 else bnd (fX1_carry fu a0 a1 x1 a2 s1) (fun _ s3 => rdI s3 (a0 + 1) 8 x1 (fun x2 => rdS x2 (fun p1 => stf s3 p1 6 ((s3 p1 6) + a2) (fun s4 => j1 s4))))))
def fX2_shareOf (fu : Nat) (a0 : Nat) (a1 : Int) (a2 : Int) (σ : Mem) : PR := rfd (σ 136 0) (fun p1 => rdI σ (a0 + 1) 12 a1 (fun x1 => rdR σ p1 12 x1 (fun p2 => bnd (fX6_parts fu ((w32 a2) * (w32 (σ p2 0))) (w32 (σ a0 5)) σ) (fun x2 s1 => some (x2, s1)))))
def fX2_boardAll_L15 (fu : Nat) (p1 : Nat) (c1 : Int) (k41 : Int → Mem → PR) : Nat → Int → Int → Mem → PR
  | 0, _, _, _ => none
  | n + 1, x2, x3, s1 => if w32 (s1 p1 4) ≤ w32 x3 then k41 x2 s1 else bnd (fX2_shareOf fu p1 x3 c1 s1) (fun x5 s2 => lt (x2 - x5) (fun x6 => fX2_boardAll_L15 fu p1 c1 k41 n x6 (x3 + 1) s2))
def fX2_boardAll_L44 (fu : Nat) (p2 : Nat) (c2 : Int) (c3 : Int) (k106 : Mem → PR) : Nat → Int → Mem → PR
  | 0, _, _ => none
  | n + 1, x8, s6 => if w32 (s6 p2 4) ≤ w32 x8 then k106 s6 else bnd (fX2_shareOf fu p2 x8 c2 s6) (fun x9 s7 => rfd (s7 136 0) (fun p3 => rdI s7 (p2 + 1) 12 x8 (fun x10 => rdR s7 p3 12 x10 (fun p4 => rdI s7 (p2 + 2) 12 x8 (fun x11 => jn (fun x12 s8 => bnd (fX2_carry fu p4 x11 x12 s8) (fun _ s9 => fX2_boardAll_L44 fu p2 c2 c3 k106 n (x8 + 1) s9)) (fun (j1 : Int → Mem → PR) => if w32 x8 ≠ 0 then j1 x9 s7 else j1 (x9 + c3) s7))))))
def fX2_boardAll (fu : Nat) (a0 : Nat) (σ : Mem) : PR := lt ((σ a0 0) + (σ a0 6)) (fun x1 => fX2_boardAll_L15 fu a0 x1 (fun x7 s5 => fX2_boardAll_L44 fu a0 x1 x7 (fun s13 => some (0, s13)) fu 0 s5) fu x1 0 σ)
def fX2_spreadLoads_L2 (fu : Nat) (k25 : Mem → PR) : Nat → Int → Mem → PR
  | 0, _, _ => none
  | n + 1, x1, s1 => if w32 (s1 136 1) ≤ w32 x1 then k25 s1 else rfd (s1 136 0) (fun p1 => rdR s1 p1 12 x1 (fun p2 => bnd (fX1_forgetLoads fu p2 s1) (fun _ s2 => fX2_spreadLoads_L2 fu k25 n (x1 + 1) s2)))
def fX2_spreadLoads_L27 (fu : Nat) (k49 : Mem → PR) : Nat → Int → Mem → PR
  | 0, _, _ => none
  | n + 1, x2, s6 => if w32 10 ≤ w32 x2 then k49 s6 else rdS x2 (fun p3 => stf s6 p3 6 0 (fun s7 => fX2_spreadLoads_L27 fu k49 n (x2 + 1) s7))
def fX2_spreadLoads_L55 (fu : Nat) (k84 : Mem → PR) : Nat → Int → Mem → PR
  | 0, _, _ => none
  | n + 1, x3, s12 => if w32 (s12 136 11) ≤ w32 x3 then k84 s12 else rdI s12 271 10 x3 (fun x4 => rdS x4 (fun p4 => bnd (fX2_boardAll fu p4 s12) (fun _ s13 => fX2_spreadLoads_L55 fu k84 n (x3 + 1) s13)))
def fX2_spreadLoads (fu : Nat) (σ : Mem) : PR := fX2_spreadLoads_L2 fu (fun s5 => fX2_spreadLoads_L27 fu (fun s10 => bnd (fX2_orderStops fu s10) (fun _ s11 => fX2_spreadLoads_L55 fu (fun s16 => some (0, s16)) fu 0 s11)) fu 0 s5) fu 0 σ
def fX2_findLoads (fu : Nat) (σ : Mem) : PR := bnd (fX2_findCosts fu σ) (fun _ s1 => bnd (fX2_spreadLoads fu s1) (fun _ s2 => some (0, s2)))
def fX2_spreadLoadsOf_L2 (fu : Nat) (c1 : Int) (c2 : Int) (k51 : Mem → PR) : Nat → Int → Mem → PR
  | 0, _, _ => none
  | n + 1, x1, s1 => if w32 10 ≤ w32 x1 then k51 s1 else rdS x1 (fun p1 => rdS x1 (fun p2 => stf s1 p1 8 (s1 p2 0) (fun s2 => rdS x1 (fun p3 => jn (fun x2 s3 => stf s3 p3 0 x2 (fun s4 => fX2_spreadLoadsOf_L2 fu c1 c2 k51 n (x1 + 1) s4)) (fun (j1 : Int → Mem → PR) => if w32 x1 ≠ w32 c1 then j1 0 s2 else j1 c2 s2)))))
def fX2_spreadLoadsOf_L57 (fu : Nat) (k87 : Mem → PR) : Nat → Int → Mem → PR
  | 0, _, _ => none
  | n + 1, x3, s10 => if w32 10 ≤ w32 x3 then k87 s10 else rdS x3 (fun p4 => rdS x3 (fun p5 => stf s10 p4 0 (s10 p5 8) (fun s11 => fX2_spreadLoadsOf_L57 fu k87 n (x3 + 1) s11)))
def fX2_spreadLoadsOf (fu : Nat) (a0 : Int) (a1 : Int) (σ : Mem) : PR := fX2_spreadLoadsOf_L2 fu a0 a1 (fun s8 => bnd (fX2_spreadLoads fu s8) (fun _ s9 => fX2_spreadLoadsOf_L57 fu (fun s14 => some (0, s14)) fu 0 s9)) fu 0 σ
def fX2_changing_L4 (fu : Nat) (k40 : Int → Mem → PR) : Nat → Int → Int → Mem → PR
  | 0, _, _, _ => none
  | n + 1, x1, x2, s1 => if w32 10 ≤ w32 x2 then k40 x1 s1 else jn (fun x4 s2 => lt (x1 + x4) (fun x5 => fX2_changing_L4 fu k40 n x5 (x2 + 1) s2)) (fun (j1 : Int → Mem → PR) => if w32 x2 ≠ w32 (s1 136 4) then rdS x2 (fun p1 => j1 (s1 p1 6) s1) else j1 0 s1)
def fX2_changing (fu : Nat) (σ : Mem) : PR := fX2_changing_L4 fu (fun x6 s6 => some (x6, s6)) fu 0 0 σ
def fX2_ridingPoints_L15 (fu : Nat) (c1 : Int) (k66 : Int → Mem → PR) : Nat → Int → Int → Mem → PR
  | 0, _, _, _ => none
  | n + 1, x4, x5, s2 => rfd (s2 136 0) (fun p1 => rdR s2 p1 12 c1 (fun p2 => if w32 ((s2 p2 1) - 1) ≤ w32 x5 then k66 x4 s2 else rfd (s2 136 0) (fun p3 => rdR s2 p3 12 c1 (fun p4 => rdI s2 (p4 + 8) 8 x5 (fun x7 => rfd (s2 136 0) (fun p5 => rdR s2 p5 12 c1 (fun p6 => bnd (fX1_time fu p6 x5 s2) (fun x8 s3 => lt (x4 + ((w32 x7) * (w32 x8))) (fun x9 => fX2_ridingPoints_L15 fu c1 k66 n x9 (x5 + 1) s3)))))))))
def fX2_ridingPoints_L4 (fu : Nat) (k72 : Int → Mem → PR) : Nat → Int → Int → Mem → PR
  | 0, _, _, _ => none
  | n + 1, x1, x2, s1 => if w32 (s1 136 1) ≤ w32 x2 then k72 x1 s1 else fX2_ridingPoints_L15 fu x2 (fun x10 s6 => fX2_ridingPoints_L4 fu k72 n x10 (x2 + 1) s6) fu x1 0 s1
def fX2_ridingPoints (fu : Nat) (σ : Mem) : PR := fX2_ridingPoints_L4 fu (fun x11 s9 => some (x11, s9)) fu 0 0 σ
def fX2_findTotal_L16 (fu : Nat) (k88 : Mem → PR) : Nat → Int → Mem → PR
  | 0, _, _ => none
  | n + 1, x1, s4 => if w32 10 ≤ w32 x1 then k88 s4 else rdS x1 (fun p1 => jn (fun s5 => fX2_findTotal_L16 fu k88 n (x1 + 1) s5) (fun (j1 : Mem → PR) => if w32 (s4 p1 2) = w32 (-1) then if w32 x1 = w32 (s4 136 4) then j1 s4 else stf s4 136 9 ((s4 136 9) + (w32 (s4 p1 0))) (fun s6 => j1 s6) else stf s4 136 8 ((s4 136 8) + ((w32 (s4 p1 0)) * (w32 (s4 p1 2)))) (fun s7 => j1 s7)))
def fX2_findTotal (fu : Nat) (σ : Mem) : PR := bnd (fX2_findCosts fu σ) (fun _ s1 => stf s1 136 8 0 (fun s2 => stf s2 136 9 0 (fun s3 => fX2_findTotal_L16 fu (fun s11 => some (0, s11)) fu 0 s3)))
def fX2_findTotalSkipping (fu : Nat) (a0 : Nat) (a1 : Int) (σ : Mem) : PR := bnd (fX1_copyWay fu 272 a0 σ) (fun _ s1 => bnd (fX1_omit fu a0 a1 s1) (fun _ s2 => bnd (fX2_findTotal fu s2) (fun _ s3 => bnd (fX1_copyWay fu a0 272 s3) (fun _ s4 => some (0, s4)))))
def fX2_settleOnce_L18 (fu : Nat) (k52 : Int → Mem → PR) : Nat → Int → Int → Mem → PR
  | 0, _, _, _ => none
  | n + 1, x1, x2, s3 => if w32 (s3 136 1) ≤ w32 x2 then k52 x1 s3 else rfd (s3 136 0) (fun p1 => rdR s3 p1 12 x2 (fun p2 => bnd (fX1_averageLoads fu p2 (s3 136 6) (s3 136 5) s3) (fun x4 s4 => lt (x1 + x4) (fun x5 => fX2_settleOnce_L18 fu k52 n x5 (x2 + 1) s4))))
def fX2_settleOnce (fu : Nat) (σ : Mem) : PR := bnd (fX2_findLoads fu σ) (fun _ s1 => stf s1 136 6 ((s1 136 6) + 1) (fun s2 => fX2_settleOnce_L18 fu (fun x6 s7 => some (x6, s7)) fu 0 0 s2))
def fX2_forgetCrowds_L17 (fu : Nat) (c1 : Int) (k53 : Mem → PR) : Nat → Int → Mem → PR
  | 0, _, _ => none
  | n + 1, x2, s3 => if w32 8 ≤ w32 x2 then k53 s3 else rfd (s3 136 0) (fun p1 => rdR s3 p1 12 c1 (fun p2 => wrI s3 (p2 + 3) 8 x2 0 (fun s4 => rfd (s4 136 0) (fun p3 => rdR s4 p3 12 c1 (fun p4 => wrI s4 (p4 + 4) 8 x2 0 (fun s5 => fX2_forgetCrowds_L17 fu c1 k53 n (x2 + 1) s5))))))
def fX2_forgetCrowds_L7 (fu : Nat) (k59 : Mem → PR) : Nat → Int → Mem → PR
  | 0, _, _ => none
  | n + 1, x1, s2 => if w32 (s2 136 1) ≤ w32 x1 then k59 s2 else fX2_forgetCrowds_L17 fu x1 (fun s8 => fX2_forgetCrowds_L7 fu k59 n (x1 + 1) s8) fu 0 s2
def fX2_forgetCrowds (fu : Nat) (σ : Mem) : PR := stf σ 136 6 0 (fun s1 => fX2_forgetCrowds_L7 fu (fun s11 => some (0, s11)) fu 0 s1)
def fX3_empty (fu : Nat) (σ : Mem) : PR := stf σ 323 1 0 (fun s1 => some (0, s1))
def fX3_put (fu : Nat) (a0 : Int) (σ : Mem) : PR := jn (fun s1 => some (0, s1)) (fun (j1 : Mem → PR) => if w32 16 ≤ w32 (σ 323 1) then j1 σ else wrI σ 324 16 (σ 323 1) a0 (fun s2 => stf s2 323 1 ((s2 323 1) + 1) (fun s3 => j1 s3)))
def fX3_putOne (fu : Nat) (a0 : Int) (σ : Mem) : PR := bnd (fX3_empty fu σ) (fun _ s1 => bnd (fX3_put fu a0 s1) (fun _ s2 => some (0, s2)))
def fX3_putTwo (fu : Nat) (a0 : Int) (a1 : Int) (σ : Mem) : PR := bnd (fX3_empty fu σ) (fun _ s1 => bnd (fX3_put fu a0 s1) (fun _ s2 => bnd (fX3_put fu a1 s2) (fun _ s3 => some (0, s3))))
def fX5_addsFour_L15 (fu : Nat) (c1 : Int) (k51 : Mem → PR) : Nat → Int → Mem → PR
  | 0, _, _ => none
  | n + 1, x1, s1 => if w32 x1 < 0 then k51 s1 else wrI s1 2 400 (s1 1 1) (and32 (shr32 c1 x1) 255) (fun s2 => stf s2 1 1 ((s2 1 1) + 1) (fun s3 => fX5_addsFour_L15 fu c1 k51 n (x1 + (-8)) s3))
def fX5_addsFour (fu : Nat) (a0 : Int) (σ : Mem) : PR := if w32 (σ 1 1) ≤ w32 396 then fX5_addsFour_L15 fu a0 (fun s6 => rtz 1 s6) fu 24 σ else rtz 0 σ
def fX5_begin (fu : Nat) (σ : Mem) : PR := stf σ 1 5 0 (fun s1 => stf s1 1 3 0 (fun s2 => some (0, s2)))
def fX5_isNext (fu : Nat) (a0 : Int) (σ : Mem) : PR := jn (fun x1 s1 => rtz x1 s1) (fun (j1 : Int → Mem → PR) => jn (fun s2 => j1 0 s2) (fun (j2 : Mem → PR) => if w32 (σ 1 1) ≤ w32 (σ 1 5) then j2 σ else rdI σ 2 400 (σ 1 5) (fun x2 => if w32 x2 ≠ w32 a0 then j2 σ else j1 1 σ)))
def fX5_fails (fu : Nat) (a0 : Int) (σ : Mem) : PR := stf σ 1 4 a0 (fun s1 => rtz 0 s1)
def fX5_readsEnd (fu : Nat) (σ : Mem) : PR := jn (fun x1 s1 => rtz x1 s1) (fun (j1 : Int → Mem → PR) => jn (fun s2 => j1 1 s2) (fun (j2 : Mem → PR) => if w32 (σ 1 5) = w32 (σ 1 1) then j2 σ else bnd (fX5_fails fu (σ 1 5) σ) (fun x2 s3 => if w32 x2 = 0 then j1 0 s3 else j2 s3)))
def fX5_keep (fu : Nat) (a0 : Nat) (a1 : Int) (σ : Mem) : PR := stf σ 1 3 ((σ 1 3) + 1) (fun s1 => jn (fun s2 => rtz 1 s2) (fun (j1 : Mem → PR) => if w32 a1 = 0 then j1 s1 else rfd (s1 1 2) (fun p1 => rdR s1 p1 12 (s1 1 3) (fun p2 => bnd (fX1_becomeReturnOf fu p2 a0 s1) (fun _ s3 => stf s3 1 3 ((s3 1 3) + 1) (fun s4 => j1 s4))))))
def fX5_isDigitNext (fu : Nat) (σ : Mem) : PR := jn (fun x1 s1 => rtz x1 s1) (fun (j1 : Int → Mem → PR) => jn (fun s2 => j1 0 s2) (fun (j2 : Mem → PR) => if w32 (σ 1 1) ≤ w32 (σ 1 5) then j2 σ else rdI σ 2 400 (σ 1 5) (fun x2 => if w32 x2 < w32 48 then j2 σ else rdI σ 2 400 (σ 1 5) (fun x3 => if w32 57 < w32 x3 then j2 σ else j1 1 σ))))
def fX5_readsNumber_L23 (fu : Nat) (c1 : Int) (k75 : Mem → PR) : Nat → Int → Mem → PR
  | 0, _, _ => none
  | n + 1, x2, s3 => if w32 2 ≤ w32 x2 then k75 s3 else bnd (fX5_isDigitNext fu s3) (fun x3 s4 => if w32 x3 = 0 then k75 s4 else rdI s4 2 400 (s4 1 5) (fun x4 => stf s4 1 6 (((10 * (s4 1 6)) + x4) - 48) (fun s5 => stf s5 1 5 ((s5 1 5) + 1) (fun s6 => fX5_readsNumber_L23 fu c1 k75 n (x2 + 1) s6))))
def fX5_readsNumber (fu : Nat) (a0 : Int) (σ : Mem) : PR := bnd (fX5_isDigitNext fu σ) (fun x1 s1 => if w32 x1 ≠ 0 then stf s1 1 6 0 (fun s2 => fX5_readsNumber_L23 fu a0 (fun s9 => jn (fun x5 s10 => rtz x5 s10) (fun (j1 : Int → Mem → PR) => jn (fun s11 => j1 1 s11) (fun (j2 : Mem → PR) => jn (fun s12 => bnd (fX5_fails fu ((s12 1 5) - 1) s12) (fun x6 s13 => if w32 x6 = 0 then j1 0 s13 else j2 s13)) (fun (j3 : Mem → PR) => if w32 (s9 1 6) < w32 1 then j3 s9 else if w32 (s9 1 6) ≤ w32 a0 then j2 s9 else j3 s9)))) fu 0 s2) else bnd (fX5_fails fu (s1 1 5) s1) (fun x7 s17 => rtz x7 s17))
def fX5_readsSign (fu : Nat) (a0 : Int) (σ : Mem) : PR := bnd (fX5_isNext fu a0 σ) (fun x1 s1 => if w32 x1 ≠ 0 then stf s1 1 5 ((s1 1 5) + 1) (fun s2 => rtz 1 s2) else bnd (fX5_fails fu (s1 1 5) s1) (fun x2 s3 => rtz x2 s3))
def fX5_readsStop (fu : Nat) (a0 : Nat) (a1 : Int) (σ : Mem) : PR := bnd (fX5_isDigitNext fu σ) (fun x1 s1 => jn (fun s2 => bnd (fX5_fails fu (s2 1 5) s2) (fun x2 s3 => rtz x2 s3)) (fun (j1 : Mem → PR) => if w32 x1 = 0 then j1 s1 else rdI s1 2 400 (s1 1 5) (fun x3 => bnd (fX1_goesTo fu a0 (x3 - 48) s1) (fun x4 s4 => if w32 x4 = 0 then rdI s4 2 400 (s4 1 5) (fun x5 => bnd (fX1_lead fu a0 a1 (x5 - 48) s4) (fun _ s5 => stf s5 1 5 ((s5 1 5) + 1) (fun s6 => rtz 1 s6))) else j1 s4))))
def fX5_readsStep (fu : Nat) (a0 : Nat) (σ : Mem) : PR := bnd (fX5_readsSign fu 45 σ) (fun x1 s1 => jn (fun x2 s2 => rtz x2 s2) (fun (j1 : Int → Mem → PR) => jn (fun s3 => j1 0 s3) (fun (j2 : Mem → PR) => if w32 x1 = 0 then j2 s1 else bnd (fX5_readsNumber fu 99 s1) (fun x3 s4 => if w32 x3 = 0 then j2 s4 else bnd (fX5_readsSign fu 45 s4) (fun x4 s5 => if w32 x4 = 0 then j2 s5 else bnd (fX5_readsStop fu a0 (s5 1 6) s5) (fun x5 s6 => if w32 x5 = 0 then j2 s6 else j1 1 s6))))))
def fX5_readsWay_L21 (fu : Nat) (p1 : Nat) (k52 : Mem → PR) (k44 : Mem → PR) : Nat → Int → Mem → PR
  | 0, _, _ => none
  | n + 1, x3, s4 => if w32 7 ≤ w32 x3 then k52 s4 else bnd (fX5_isNext fu 45 s4) (fun x4 s5 => if w32 x4 = 0 then k52 s5 else bnd (fX5_readsStep fu p1 s5) (fun x5 s6 => if w32 x5 ≠ 0 then fX5_readsWay_L21 fu p1 k52 k44 n (x3 + 1) s6 else k44 s6))
def fX5_readsWay (fu : Nat) (a0 : Nat) (σ : Mem) : PR := bnd (fX5_readsStop fu a0 0 σ) (fun x1 s1 => jn (fun s2 => rtz 0 s2) (fun (j1 : Mem → PR) => if w32 x1 = 0 then j1 s1 else bnd (fX5_readsStep fu a0 s1) (fun x2 s3 => if w32 x2 ≠ 0 then fX5_readsWay_L21 fu a0 (fun s10 => rtz 1 s10) (fun s11 => rtz 0 s11) fu 1 s3 else j1 s3)))
def fX5_readsLine (fu : Nat) (a0 : Int) (σ : Mem) : PR := lt (σ 1 5) (fun x1 => jn (fun s1 => bnd (fX5_fails fu x1 s1) (fun x2 s2 => rtz x2 s2)) (fun (j1 : Mem → PR) => if w32 a0 ≤ w32 (σ 1 3) then j1 σ else if w32 (σ 1 3) < w32 12 then bnd (fX5_readsNumber fu 60 σ) (fun x3 s3 => if w32 x3 ≠ 0 then bnd (fX5_isNext fu 61 s3) (fun x4 s4 => jn (fun s5 => jn (fun x5 s6 => bnd (fX5_readsSign fu x5 s6) (fun x6 s7 => if w32 x6 ≠ 0 then rfd (s7 1 2) (fun p1 => rdR s7 p1 12 (s7 1 3) (fun p2 => bnd (fX1_renew fu p2 (s7 1 6) s7) (fun _ s8 => bnd (fX5_readsWay fu p2 s8) (fun x7 s9 => jn (fun x8 s10 => rtz x8 s10) (fun (j4 : Int → Mem → PR) => jn (fun s11 => j4 0 s11) (fun (j5 : Mem → PR) => if w32 x7 = 0 then j5 s9 else bnd (fX5_keep fu p2 x4 s9) (fun x9 s12 => if w32 x9 = 0 then j5 s12 else j4 1 s12))))))) else rtz 0 s7)) (fun (j3 : Int → Mem → PR) => if w32 x4 = 0 then j3 58 s5 else j3 61 s5)) (fun (j2 : Mem → PR) => if w32 x4 = 0 then j2 s4 else jn (fun s16 => bnd (fX5_fails fu x1 s16) (fun x10 s17 => rtz x10 s17)) (fun (j6 : Mem → PR) => if w32 a0 ≤ w32 ((s4 1 3) + 1) then j6 s4 else if w32 ((s4 1 3) + 1) < w32 12 then j2 s4 else j6 s4))) else rtz 0 s3) else j1 σ))
def fX5_readsLines_L22 (fu : Nat) (k64 : Int → Mem → PR) : Nat → Int → Int → Mem → PR
  | 0, _, _, _ => none
  | n + 1, x2, x3, s3 => if w32 12 < w32 x3 then k64 x2 s3 else if w32 x2 = 0 then k64 x2 s3 else bnd (fX5_isNext fu 59 s3) (fun x5 s4 => if w32 x5 = 0 then k64 x2 s4 else stf s4 1 5 ((s4 1 5) + 1) (fun s5 => bnd (fX5_readsLine fu 12 s5) (fun x6 s6 => fX5_readsLines_L22 fu k64 n x6 (x3 + 1) s6)))
def fX5_readsLines (fu : Nat) (σ : Mem) : PR := bnd (fX5_begin fu σ) (fun _ s1 => if w32 (s1 1 1) ≠ 0 then bnd (fX5_readsLine fu 12 s1) (fun x1 s2 => fX5_readsLines_L22 fu (fun x7 s9 => jn (fun x8 s10 => rtz x8 s10) (fun (j1 : Int → Mem → PR) => jn (fun s11 => j1 0 s11) (fun (j2 : Mem → PR) => if w32 x7 = 0 then j2 s9 else bnd (fX5_readsEnd fu s9) (fun x9 s12 => if w32 x9 = 0 then j2 s12 else j1 1 s12)))) fu x1 1 s2) else rtz 1 s1)
def fX5_readsOneLine (fu : Nat) (a0 : Int) (σ : Mem) : PR := bnd (fX5_begin fu σ) (fun _ s1 => bnd (fX5_readsLine fu a0 s1) (fun x1 s2 => jn (fun x2 s3 => rtz x2 s3) (fun (j1 : Int → Mem → PR) => jn (fun s4 => j1 0 s4) (fun (j2 : Mem → PR) => if w32 x1 = 0 then j2 s2 else bnd (fX5_readsEnd fu s2) (fun x3 s5 => if w32 x3 = 0 then j2 s5 else j1 1 s5)))))
def fX6_sign (fu : Nat) (a0 : Int) (σ : Mem) : PR := bnd (fX5_addsFour fu a0 σ) (fun x1 s1 => jn (fun x2 s2 => some (x2, s2)) (fun (j1 : Int → Mem → PR) => if w32 x1 = 0 then j1 (-1) s1 else j1 (s1 1 1) s1))
def fX6_end (fu : Nat) (a0 : Int) (σ : Mem) : PR := jn (fun s1 => rtz 0 s1) (fun (j1 : Mem → PR) => if w32 a0 < 0 then j1 σ else if w32 a0 ≤ w32 (σ 1 1) then stf σ 1 1 a0 (fun s2 => rtz 1 s2) else j1 σ)
def fX6_net (fu : Nat) (σ : Mem) : PR := bnd (fX5_readsLines fu σ) (fun x1 s1 => stf s1 1 1 0 (fun s2 => if w32 x1 ≠ 0 then bnd (fX2_replaceLines fu s2) (fun _ s3 => some (s3 136 1, s3)) else some ((-21) - (s2 1 4), s2)))
def fX6_adds (fu : Nat) (σ : Mem) : PR := bnd (fX5_readsOneLine fu (12 - (σ 136 1)) σ) (fun x1 s1 => stf s1 1 1 0 (fun s2 => if w32 x1 ≠ 0 then bnd (fX2_appendLines fu s2) (fun _ s3 => some (s3 136 1, s3)) else some ((-21) - (s2 1 4), s2)))
def fX6_drops (fu : Nat) (a0 : Int) (σ : Mem) : PR := bnd (fX2_hasLine fu a0 σ) (fun x1 s1 => if w32 x1 ≠ 0 then bnd (fX2_removeLine fu a0 s1) (fun _ s2 => some (s2 136 1, s2)) else some (-1, s1))
def fX6_waiting (fu : Nat) (a0 : Int) (σ : Mem) : PR := jn (fun s1 => some (-1, s1)) (fun (j1 : Mem → PR) => if w32 a0 < w32 1 then j1 σ else if w32 a0 ≤ w32 100 then lt (σ 136 3) (fun x1 => stf σ 136 3 a0 (fun s2 => some (x1, s2))) else j1 σ)
def fX6_isStop (fu : Nat) (a0 : Int) (σ : Mem) : PR := jn (fun x1 s1 => rtz x1 s1) (fun (j1 : Int → Mem → PR) => jn (fun s2 => j1 0 s2) (fun (j2 : Mem → PR) => if w32 a0 < 0 then j2 σ else if w32 10 ≤ w32 a0 then j2 σ else j1 1 σ))
def fX6_goal (fu : Nat) (a0 : Int) (σ : Mem) : PR := bnd (fX6_isStop fu a0 σ) (fun x1 s1 => if w32 x1 ≠ 0 then lt (s1 136 4) (fun x2 => stf s1 136 4 a0 (fun s2 => some (x2, s2))) else some (-1, s1))
def fX6_riders (fu : Nat) (a0 : Int) (a1 : Int) (σ : Mem) : PR := bnd (fX6_isStop fu a0 σ) (fun x1 s1 => jn (fun s2 => some (-1, s2)) (fun (j1 : Mem → PR) => if w32 x1 = 0 then j1 s1 else if w32 a1 < 0 then j1 s1 else if w32 a1 ≤ w32 9999 then rdS a0 (fun p1 => lt (s1 p1 0) (fun x2 => rdS a0 (fun p2 => stf s1 p2 0 a1 (fun s3 => some (x2, s3))))) else j1 s1))
def fJ6_bitCount_0f7a4 (fu : Nat) (a0 : Int) (σ : Mem) : PR := lt (a0 - (and32 (ushr32 a0 1) 1431655765)) (fun x1 => lt ((and32 x1 858993459) + (and32 (ushr32 x1 2) 858993459)) (fun x2 => lt (and32 (x2 + (ushr32 x2 4)) 252645135) (fun x3 => lt (x3 + (ushr32 x3 8)) (fun x4 => lt (x4 + (ushr32 x4 16)) (fun x5 => some (and32 x5 63, σ))))))
def fX6_out (fu : Nat) (a0 : Int) (a1 : Int) (σ : Mem) : PR := bnd (fX2_hasLine fu a0 σ) (fun x1 s1 => if w32 x1 ≠ 0 then rfd (s1 136 0) (fun p1 => rdR s1 p1 12 a0 (fun p2 => if w32 (s1 p2 4) ≠ w32 a1 then rfd (s1 136 0) (fun p3 => rdR s1 p3 12 a0 (fun p4 => stz s1 p4 4 a1 (fun s2 => bnd (fX2_outLines fu s2) (fun x2 s3 => bnd (fJ6_bitCount_0f7a4 fu x2 s3) (fun x3 s4 => some (x3, s4)))))) else some (-2, s1))) else some (-1, s1))
def fX6_closes (fu : Nat) (a0 : Int) (a1 : Int) (σ : Mem) : PR := bnd (fX6_isStop fu a0 σ) (fun x1 s1 => if w32 x1 ≠ 0 then rdS a0 (fun p1 => if w32 (s1 p1 1) ≠ w32 a1 then rdS a0 (fun p2 => stz s1 p2 1 a1 (fun s2 => bnd (fX2_closedStops fu s2) (fun x2 s3 => bnd (fJ6_bitCount_0f7a4 fu x2 s3) (fun x3 s4 => some (x3, s4))))) else some (-2, s1)) else some (-1, s1))
def fX6_often (fu : Nat) (a0 : Int) (a1 : Int) (σ : Mem) : PR := bnd (fX2_hasLine fu a0 σ) (fun x1 s1 => jn (fun s2 => some (-1, s2)) (fun (j1 : Mem → PR) => if w32 x1 = 0 then j1 s1 else if w32 a1 < w32 1 then j1 s1 else if w32 a1 ≤ w32 60 then rfd (s1 136 0) (fun p1 => rdR s1 p1 12 a0 (fun p2 => lt (s1 p2 0) (fun x2 => rfd (s1 136 0) (fun p3 => rdR s1 p3 12 a0 (fun p4 => stf s1 p4 0 a1 (fun s3 => some (x2, s3))))))) else j1 s1))
def fX6_line (fu : Nat) (a0 : Int) (a1 : Int) (σ : Mem) : PR := bnd (fX2_hasLine fu a0 σ) (fun x1 s1 => if w32 x1 ≠ 0 then rfd (s1 136 0) (fun p1 => rdR s1 p1 12 a0 (fun p2 => if w32 a1 < 0 ∨ 4 < w32 a1 then some (-1, s1) else if w32 a1 = 0 then some (s1 p2 0, s1) else if w32 a1 = 1 then some (s1 p2 1, s1) else if w32 a1 = 2 then some (s1 p2 2, s1) else if w32 a1 = 3 then some (s1 p2 3, s1) else if w32 a1 = 4 then bnd (fX6_bit fu (s1 p2 4) s1) (fun x2 s2 => some (x2, s2)) else none)) else some (-1, s1))
def fX6_stop (fu : Nat) (a0 : Int) (a1 : Int) (σ : Mem) : PR := bnd (fX2_hasHalt fu a0 a1 σ) (fun x1 s1 => if w32 x1 ≠ 0 then rfd (s1 136 0) (fun p1 => rdR s1 p1 12 a0 (fun p2 => bnd (fX3_empty fu s1) (fun _ s2 => bnd (fX1_isStep fu p2 a1 s2) (fun x2 s3 => jn (fun s4 => rdI s4 (p2 + 1) 8 a1 (fun x3 => some (x3, s4))) (fun (j1 : Mem → PR) => if w32 x2 = 0 then j1 s3 else rdI s3 (p2 + 2) 8 a1 (fun x4 => bnd (fX3_put fu (w32 x4) s3) (fun _ s5 => rdI s5 (p2 + 3) 8 a1 (fun x5 => bnd (fX3_put fu (w32 x5) s5) (fun _ s6 => j1 s6))))))))) else some (-1, s1))
def fX6_cost (fu : Nat) (a0 : Int) (σ : Mem) : PR := bnd (fX6_isStop fu a0 σ) (fun x1 s1 => if w32 x1 ≠ 0 then bnd (fX2_findCosts fu s1) (fun _ s2 => rdS a0 (fun p1 => if w32 (s2 p1 2) ≠ w32 (-1) then bnd (fX3_putTwo fu (w32 (s2 p1 5)) (w32 (s2 p1 4)) s2) (fun _ s3 => some (s3 p1 2, s3)) else some (-2, s2))) else some (-1, s1))
def fX6_rounds (fu : Nat) (σ : Mem) : PR := bnd (fX2_findCosts fu σ) (fun _ s1 => bnd (fX2_stopsWithin fu 2147483647 s1) (fun x1 s2 => bnd (fJ6_bitCount_0f7a4 fu x1 s2) (fun x2 s3 => bnd (fX3_putOne fu (w32 x2) s3) (fun _ s4 => some (s4 136 7, s4)))))
def fX6_chosen_L35 (fu : Nat) (p2 : Nat) (k63 : Mem → PR) : Nat → Int → Mem → PR
  | 0, _, _ => none
  | n + 1, x2, s4 => if w32 (s4 p2 4) ≤ w32 x2 then k63 s4 else rdI s4 (p2 + 1) 12 x2 (fun x3 => bnd (fX3_put fu (w32 x3) s4) (fun _ s5 => fX6_chosen_L35 fu p2 k63 n (x2 + 1) s5))
def fX6_chosen (fu : Nat) (a0 : Int) (σ : Mem) : PR := bnd (fX6_isStop fu a0 σ) (fun x1 s1 => if w32 x1 ≠ 0 then bnd (fX2_findCosts fu s1) (fun _ s2 => rdS a0 (fun p1 => bnd (fX3_empty fu s2) (fun _ s3 => fX6_chosen_L35 fu p1 (fun s8 => bnd (fX4_takenLines fu p1 s8) (fun x4 s9 => some (x4, s9))) fu 0 s3))) else some (-1, s1))
def fX6_boarding (fu : Nat) (a0 : Int) (a1 : Int) (σ : Mem) : PR := bnd (fX2_hasStep fu a0 a1 σ) (fun x1 s1 => if w32 x1 ≠ 0 then bnd (fX2_findCosts fu s1) (fun _ s2 => rfd (s2 136 0) (fun p1 => rdR s2 p1 12 a0 (fun p2 => rdI s2 (p2 + 6) 8 a1 (fun x2 => if w32 x2 ≠ w32 (-1) then bnd (fX2_isTaken fu a0 a1 s2) (fun x3 s3 => bnd (fX6_bit fu x3 s3) (fun x4 s4 => bnd (fX3_putOne fu (w32 x4) s4) (fun _ s5 => rdI s5 (p2 + 6) 8 a1 (fun x5 => some (x5, s5))))) else some (-2, s2))))) else some (-1, s1))
def fX6_aboard (fu : Nat) (a0 : Int) (a1 : Int) (σ : Mem) : PR := bnd (fX2_hasHalt fu a0 a1 σ) (fun x1 s1 => if w32 x1 ≠ 0 then bnd (fX2_findCosts fu s1) (fun _ s2 => rfd (s2 136 0) (fun p1 => rdR s2 p1 12 a0 (fun p2 => rdI s2 (p2 + 5) 8 a1 (fun x2 => if w32 x2 ≠ w32 (-1) then rdI s2 (p2 + 7) 8 a1 (fun x3 => bnd (fX6_bit fu x3 s2) (fun x4 s3 => bnd (fX3_putOne fu (w32 x4) s3) (fun _ s4 => rdI s4 (p2 + 5) 8 a1 (fun x5 => some (x5, s4))))) else some (-2, s2))))) else some (-1, s1))
def fX6_worst_L13 (fu : Nat) (k67 : Int → Int → Mem → PR) : Nat → Int → Int → Int → Mem → PR
  | 0, _, _, _, _ => none
  | n + 1, x1, x2, x3, s2 => if w32 10 ≤ w32 x3 then k67 x1 x2 s2 else jn (fun x6 x7 s3 => fX6_worst_L13 fu k67 n x6 x7 (x3 + 1) s3) (fun (j1 : Int → Int → Mem → PR) => if w32 x3 = w32 (s2 136 4) then j1 x1 x2 s2 else rdS x3 (fun p1 => if w32 (s2 p1 2) ≤ w32 x2 then j1 x1 x2 s2 else rdS x3 (fun p2 => lt (s2 p2 2) (fun x8 => j1 x3 x8 s2))))
def fX6_worst (fu : Nat) (σ : Mem) : PR := bnd (fX2_findCosts fu σ) (fun _ s1 => fX6_worst_L13 fu (fun x9 x10 s7 => if w32 x9 ≠ w32 (-1) then bnd (fX3_putOne fu (w32 x10) s7) (fun _ s8 => some (x9, s8)) else some (-2, s7)) fu (-1) 0 0 s1)
def fX6_wait (fu : Nat) (a0 : Int) (σ : Mem) : PR := bnd (fX6_isStop fu a0 σ) (fun x1 s1 => if w32 x1 ≠ 0 then bnd (fX2_findCosts fu s1) (fun _ s2 => jn (fun s3 => some (-2, s3)) (fun (j1 : Mem → PR) => if w32 a0 = w32 (s2 136 4) then j1 s2 else rdS a0 (fun p1 => if w32 (s2 p1 2) ≠ w32 (-1) then bnd (fX2_waitingWeight fu s2) (fun x2 s4 => rdS a0 (fun p2 => bnd (fX6_parts fu x2 (w32 (s4 p2 5)) s4) (fun x3 s5 => some (x3, s5)))) else j1 s2))) else some (-1, s1))
def fX6_boards (fu : Nat) (a0 : Int) (σ : Mem) : PR := bnd (fX6_isStop fu a0 σ) (fun x1 s1 => if w32 x1 ≠ 0 then bnd (fX2_findCosts fu s1) (fun _ s2 => rdS a0 (fun p1 => if w32 (s2 p1 2) ≠ w32 (-1) then bnd (fX2_findBoards fu s2) (fun _ s3 => rdS a0 (fun p2 => some (s3 p2 7, s3))) else some (-2, s2))) else some (-1, s1))
def fX6_slack (fu : Nat) (a0 : Int) (a1 : Int) (σ : Mem) : PR := bnd (fX2_hasStep fu a0 a1 σ) (fun x1 s1 => if w32 x1 ≠ 0 then bnd (fX2_findCosts fu s1) (fun _ s2 => rfd (s2 136 0) (fun p1 => rdR s2 p1 12 a0 (fun p2 => rdI s2 (p2 + 1) 8 a1 (fun x2 => rdS x2 (fun p3 => lt (s2 p3 2) (fun x3 => rdI s2 (p2 + 6) 8 a1 (fun x4 => jn (fun s3 => some (-2, s3)) (fun (j1 : Mem → PR) => if w32 x4 = w32 (-1) then j1 s2 else if w32 x3 = w32 (-1) then j1 s2 else if w32 x2 = w32 (s2 136 4) then j1 s2 else if w32 (s2 p2 4) = 0 then bnd (fX2_isTaken fu a0 a1 s2) (fun x5 s4 => jn (fun x6 s5 => some (x6, s5)) (fun (j2 : Int → Mem → PR) => if w32 x5 = 0 then rdI s4 (p2 + 6) 8 a1 (fun x7 => j2 ((x7 - x3) + 1) s4) else j2 0 s4)) else j1 s2)))))))) else some (-1, s1))
def fX6_reach (fu : Nat) (a0 : Int) (σ : Mem) : PR := if 0 ≤ w32 a0 then bnd (fX2_findCosts fu σ) (fun _ s1 => bnd (fX2_stopsWithin fu a0 s1) (fun x1 s2 => bnd (fX3_putOne fu (w32 x1) s2) (fun _ s3 => bnd (fJ6_bitCount_0f7a4 fu x1 s3) (fun x2 s4 => some (x2, s4))))) else some (-1, σ)
def fX6_between (fu : Nat) (a0 : Int) (a1 : Int) (σ : Mem) : PR := bnd (fX6_isStop fu a0 σ) (fun x1 s1 => jn (fun s2 => some (-1, s2)) (fun (j1 : Mem → PR) => if w32 x1 = 0 then j1 s1 else bnd (fX6_isStop fu a1 s1) (fun x2 s3 => if w32 x2 ≠ 0 then lt (s3 136 4) (fun x3 => stf s3 136 4 a1 (fun s4 => bnd (fX2_findCosts fu s4) (fun _ s5 => stf s5 136 4 x3 (fun s6 => rdS a0 (fun p1 => lt (s6 p1 2) (fun x4 => if w32 x4 ≠ w32 (-1) then bnd (fX3_putOne fu (w32 (s6 136 7)) s6) (fun _ s7 => some (x4, s7)) else some (-2, s6))))))) else j1 s3)))
def fX6_load (fu : Nat) (a0 : Int) (a1 : Int) (σ : Mem) : PR := bnd (fX2_hasStep fu a0 a1 σ) (fun x1 s1 => if w32 x1 ≠ 0 then bnd (fX2_findLoads fu s1) (fun _ s2 => rfd (s2 136 0) (fun p1 => rdR s2 p1 12 a0 (fun p2 => rdI s2 (p2 + 8) 8 a1 (fun x2 => some (x2, s2))))) else some (-1, s1))
def fX6_passes (fu : Nat) (a0 : Int) (σ : Mem) : PR := bnd (fX6_isStop fu a0 σ) (fun x1 s1 => if w32 x1 ≠ 0 then bnd (fX2_findLoads fu s1) (fun _ s2 => rdS a0 (fun p1 => bnd (fX3_putOne fu (w32 (s2 p1 6)) s2) (fun _ s3 => some ((s3 p1 0) + (s3 p1 6), s3)))) else some (-1, s1))
def fX6_ridden (fu : Nat) (a0 : Int) (σ : Mem) : PR := bnd (fX2_hasLine fu a0 σ) (fun x1 s1 => if w32 x1 ≠ 0 then bnd (fX2_findLoads fu s1) (fun _ s2 => rfd (s2 136 0) (fun p1 => rdR s2 p1 12 a0 (fun p2 => bnd (fX1_fullestStep fu p2 s2) (fun x2 s3 => rdI s3 (p2 + 8) 8 x2 (fun x3 => bnd (fX3_putTwo fu (w32 x3) (w32 x2) s3) (fun _ s4 => bnd (fX1_allEntering fu p2 s4) (fun x4 s5 => some (x4, s5)))))))) else some (-1, s1))
def fX6_boardings (fu : Nat) (a0 : Int) (a1 : Int) (σ : Mem) : PR := bnd (fX2_hasHalt fu a0 a1 σ) (fun x1 s1 => if w32 x1 ≠ 0 then bnd (fX2_findLoads fu s1) (fun _ s2 => rfd (s2 136 0) (fun p1 => rdR s2 p1 12 a0 (fun p2 => rdI s2 (p2 + 10) 8 a1 (fun x2 => bnd (fX3_putOne fu (w32 x2) s2) (fun _ s3 => rfd (s3 136 0) (fun p3 => rdR s3 p3 12 a0 (fun p4 => rdI s3 (p4 + 9) 8 a1 (fun x3 => some (x3, s3))))))))) else some (-1, s1))
def fX6_total (fu : Nat) (σ : Mem) : PR := bnd (fX2_findTotal fu σ) (fun _ s1 => bnd (fX2_spreadLoads fu s1) (fun _ s2 => bnd (fX2_ridingPoints fu s2) (fun x1 s3 => bnd (fX3_putTwo fu (s2 136 9) x1 s3) (fun _ s4 => some (s4 136 8, s4)))))
def fX6_fullest_L26 (fu : Nat) (k100 : Int → Int → Mem → PR) : Nat → Int → Int → Int → Mem → PR
  | 0, _, _, _, _ => none
  | n + 1, x1, x2, x3, s2 => if w32 (s2 136 1) ≤ w32 x3 then k100 x1 x2 s2 else rfd (s2 136 0) (fun p1 => rdR s2 p1 12 x3 (fun p2 => bnd (fX1_fullestStep fu p2 s2) (fun x6 s3 => rfd (s3 136 0) (fun p3 => rdR s3 p3 12 x3 (fun p4 => rdI s3 (p4 + 8) 8 x6 (fun x7 => jn (fun x8 x9 s4 => fX6_fullest_L26 fu k100 n x8 x9 (x3 + 1) s4) (fun (j1 : Int → Int → Mem → PR) => if w32 x7 ≤ w32 x2 then j1 x1 x2 s3 else rfd (s3 136 0) (fun p5 => rdR s3 p5 12 x3 (fun p6 => rdI s3 (p6 + 8) 8 x6 (fun x10 => lt ((100 * x3) + x6) (fun x11 => j1 x11 x10 s3)))))))))))
def fX6_fullest (fu : Nat) (σ : Mem) : PR := if w32 (σ 136 1) ≠ 0 then bnd (fX2_findLoads fu σ) (fun _ s1 => fX6_fullest_L26 fu (fun x12 x13 s8 => bnd (fX3_putOne fu (w32 x13) s8) (fun _ s9 => some (x12, s9))) fu 0 (-1) 0 s1) else some (-2, σ)
def fX6_changes (fu : Nat) (σ : Mem) : PR := bnd (fX2_findLoads fu σ) (fun _ s1 => bnd (fX2_changing fu s1) (fun x1 s2 => some (x1, s2)))
def fX6_crowd (fu : Nat) (a0 : Int) (σ : Mem) : PR := jn (fun s1 => some (-1, s1)) (fun (j1 : Mem → PR) => if w32 a0 < 0 then j1 σ else if w32 a0 ≤ w32 9999 then lt (σ 136 5) (fun x1 => stf σ 136 5 a0 (fun s2 => some (x1, s2))) else j1 σ)
def fX6_seats (fu : Nat) (a0 : Int) (a1 : Int) (σ : Mem) : PR := bnd (fX2_hasLine fu a0 σ) (fun x1 s1 => jn (fun s2 => some (-1, s2)) (fun (j1 : Mem → PR) => if w32 x1 = 0 then j1 s1 else if w32 a1 < w32 1 then j1 s1 else if w32 a1 ≤ w32 999 then rfd (s1 136 0) (fun p1 => rdR s1 p1 12 a0 (fun p2 => lt (s1 p2 2) (fun x2 => rfd (s1 136 0) (fun p3 => rdR s1 p3 12 a0 (fun p4 => stf s1 p4 2 a1 (fun s3 => some (x2, s3))))))) else j1 s1))
def fX6_settles_L17 (fu : Nat) (c1 : Int) (k36 : Int → Mem → PR) : Nat → Int → Int → Mem → PR
  | 0, _, _, _ => none
  | n + 1, x1, x2, s2 => if w32 c1 ≤ w32 x2 then k36 x1 s2 else bnd (fX2_settleOnce fu s2) (fun x4 s3 => fX6_settles_L17 fu c1 k36 n x4 (x2 + 1) s3)
def fX6_settles (fu : Nat) (a0 : Int) (σ : Mem) : PR := jn (fun s1 => some (-1, s1)) (fun (j1 : Mem → PR) => if w32 a0 < w32 1 then j1 σ else if w32 a0 ≤ w32 50 then fX6_settles_L17 fu a0 (fun x5 s6 => bnd (fX2_findTotal fu s6) (fun _ s7 => bnd (fX3_putTwo fu (w32 (s7 136 6)) (s7 136 8) s7) (fun _ s8 => some (x5, s8)))) fu 0 0 σ else j1 σ)
def fX6_balances_L29 (fu : Nat) (c1 : Int) (c2 : Int) (k54 : Int → Int → Mem → PR) : Nat → Int → Int → Mem → PR
  | 0, _, _, _ => none
  | n + 1, x2, x3, s3 => if w32 c2 ≤ w32 x3 then k54 x2 x3 s3 else if w32 x2 ≤ w32 c1 then k54 x2 x3 s3 else bnd (fX2_settleOnce fu s3) (fun x6 s4 => fX6_balances_L29 fu c1 c2 k54 n x6 (x3 + 1) s4)
def fX6_balances (fu : Nat) (a0 : Int) (a1 : Int) (σ : Mem) : PR := jn (fun s1 => some (-1, s1)) (fun (j1 : Mem → PR) => if w32 a0 < 0 then j1 σ else if w32 a1 < w32 1 then j1 σ else if w32 a1 ≤ w32 200 then bnd (fX2_settleOnce fu σ) (fun x1 s2 => fX6_balances_L29 fu a0 a1 (fun x7 x8 s7 => bnd (fX3_putTwo fu (w32 x7) (w32 (s7 136 6)) s7) (fun _ s8 => some (x8, s8))) fu x1 1 s2) else j1 σ)
def fX6_averaged (fu : Nat) (a0 : Int) (a1 : Int) (σ : Mem) : PR := bnd (fX2_hasStep fu a0 a1 σ) (fun x1 s1 => if w32 x1 ≠ 0 then rfd (s1 136 0) (fun p1 => rdR s1 p1 12 a0 (fun p2 => rdI s1 (p2 + 3) 8 a1 (fun x2 => bnd (fX3_putOne fu (w32 x2) s1) (fun _ s2 => rfd (s2 136 0) (fun p3 => rdR s2 p3 12 a0 (fun p4 => rdI s2 (p4 + 4) 8 a1 (fun x3 => some (x3, s2)))))))) else some (-1, s1))
def fX6_clears (fu : Nat) (σ : Mem) : PR := lt (σ 136 6) (fun x1 => bnd (fX2_forgetCrowds fu σ) (fun _ s1 => some (x1, s1)))
def fX6_tellDifference (fu : Nat) (a0 : Int) (σ : Mem) : PR := bnd (fX3_putTwo fu ((σ 136 8) - a0) (σ 136 9) σ) (fun _ s1 => some (s1 136 8, s1))
def fX6_totalNow (fu : Nat) (σ : Mem) : PR := bnd (fX2_findTotal fu σ) (fun _ s1 => some (s1 136 8, s1))
def fX6_without (fu : Nat) (a0 : Int) (σ : Mem) : PR := bnd (fX2_hasLine fu a0 σ) (fun x1 s1 => if w32 x1 ≠ 0 then rfd (s1 136 0) (fun p1 => rdR s1 p1 12 a0 (fun p2 => if w32 (s1 p2 4) = 0 then bnd (fX6_totalNow fu s1) (fun x2 s2 => stz s2 p2 4 1 (fun s3 => bnd (fX2_findTotal fu s3) (fun _ s4 => stz s4 p2 4 0 (fun s5 => bnd (fX6_tellDifference fu x2 s5) (fun x3 s6 => some (x3, s6)))))) else some (-2, s1))) else some (-1, s1))
def fX6_shut (fu : Nat) (a0 : Int) (σ : Mem) : PR := bnd (fX6_isStop fu a0 σ) (fun x1 s1 => if w32 x1 ≠ 0 then rdS a0 (fun p1 => if w32 (s1 p1 1) = 0 then bnd (fX6_totalNow fu s1) (fun x2 s2 => stz s2 p1 1 1 (fun s3 => bnd (fX2_findTotal fu s3) (fun _ s4 => stz s4 p1 1 0 (fun s5 => bnd (fX6_tellDifference fu x2 s5) (fun x3 s6 => some (x3, s6)))))) else some (-2, s1)) else some (-1, s1))
def fX6_canBeMore (fu : Nat) (a0 : Nat) (a1 : Int) (σ : Mem) : PR := jn (fun s1 => rtz 0 s1) (fun (j1 : Mem → PR) => if w32 a1 < w32 (-59) then j1 σ else if w32 a1 ≤ w32 59 then lt ((σ a0 0) + a1) (fun x1 => jn (fun x2 s2 => rtz x2 s2) (fun (j2 : Int → Mem → PR) => jn (fun s3 => j2 0 s3) (fun (j3 : Mem → PR) => if w32 x1 < w32 1 then j3 σ else if w32 60 < w32 x1 then j3 σ else j2 1 σ))) else j1 σ)
def fX6_findTotalWithMore (fu : Nat) (a0 : Nat) (a1 : Int) (σ : Mem) : PR := stf σ a0 0 ((σ a0 0) + a1) (fun s1 => bnd (fX2_findTotal fu s1) (fun _ s2 => stf s2 a0 0 ((s2 a0 0) - a1) (fun s3 => some (0, s3))))
def fX6_more (fu : Nat) (a0 : Int) (a1 : Int) (σ : Mem) : PR := bnd (fX2_hasLine fu a0 σ) (fun x1 s1 => jn (fun s2 => some (-1, s2)) (fun (j1 : Mem → PR) => if w32 x1 = 0 then j1 s1 else rfd (s1 136 0) (fun p1 => rdR s1 p1 12 a0 (fun p2 => bnd (fX6_canBeMore fu p2 a1 s1) (fun x2 s3 => if w32 x2 ≠ 0 then bnd (fX6_totalNow fu s3) (fun x3 s4 => rfd (s4 136 0) (fun p3 => rdR s4 p3 12 a0 (fun p4 => bnd (fX6_findTotalWithMore fu p4 a1 s4) (fun _ s5 => bnd (fX6_tellDifference fu x3 s5) (fun x4 s6 => some (x4, s6)))))) else j1 s3)))))
def fX6_best_L27 (fu : Nat) (c1 : Int) (c2 : Int) (k125 : Int → Int → Mem → PR) : Nat → Int → Int → Int → Mem → PR
  | 0, _, _, _, _ => none
  | n + 1, x2, x3, x4, s3 => if w32 (s3 136 1) ≤ w32 x4 then k125 x2 x3 s3 else rfd (s3 136 0) (fun p1 => rdR s3 p1 12 x4 (fun p2 => jn (fun x7 x8 s4 => fX6_best_L27 fu c1 c2 k125 n x7 x8 (x4 + 1) s4) (fun (j2 : Int → Int → Mem → PR) => if w32 (s3 p2 4) ≠ 0 then j2 x2 x3 s3 else rfd (s3 136 0) (fun p3 => rdR s3 p3 12 x4 (fun p4 => bnd (fX6_canBeMore fu p4 c1 s3) (fun x9 s5 => if w32 x9 = 0 then j2 x2 x3 s5 else rfd (s5 136 0) (fun p5 => rdR s5 p5 12 x4 (fun p6 => bnd (fX6_findTotalWithMore fu p6 c1 s5) (fun _ s6 => jn (fun s7 => lt (s7 136 8) (fun x10 => j2 x10 x4 s7)) (fun (j3 : Mem → PR) => if w32 x3 = w32 (-1) then j3 s6 else if w64 x2 ≤ w64 (s6 136 8) then j2 x2 x3 s6 else j3 s6))))))))))
def fX6_best (fu : Nat) (a0 : Int) (σ : Mem) : PR := jn (fun s1 => some (-1, s1)) (fun (j1 : Mem → PR) => if w32 a0 < w32 1 then j1 σ else if w32 a0 ≤ w32 59 then bnd (fX6_totalNow fu σ) (fun x1 s2 => fX6_best_L27 fu a0 x1 (fun x11 x12 s12 => if w32 x12 ≠ w32 (-1) then bnd (fX3_putOne fu (x11 - x1) s12) (fun _ s13 => some (x12, s13)) else some (-2, s12)) fu 0 (-1) 0 s2) else j1 σ)
def fX6_findTotalTowards (fu : Nat) (a0 : Int) (σ : Mem) : PR := lt (σ 136 4) (fun x1 => stf σ 136 4 a0 (fun s1 => bnd (fX2_findTotal fu s1) (fun _ s2 => stf s2 136 4 x1 (fun s3 => some (0, s3)))))
def fX6_towards (fu : Nat) (a0 : Int) (σ : Mem) : PR := bnd (fX6_isStop fu a0 σ) (fun x1 s1 => if w32 x1 ≠ 0 then bnd (fX6_totalNow fu s1) (fun x2 s2 => bnd (fX6_findTotalTowards fu a0 s2) (fun _ s3 => bnd (fX6_tellDifference fu x2 s3) (fun x3 s4 => some (x3, s4)))) else some (-1, s1))
def fX6_slower (fu : Nat) (a0 : Int) (a1 : Int) (a2 : Int) (σ : Mem) : PR := bnd (fX2_hasStep fu a0 a1 σ) (fun x1 s1 => if w32 x1 ≠ 0 then rfd (s1 136 0) (fun p1 => rdR s1 p1 12 a0 (fun p2 => rdI s1 (p2 + 2) 8 a1 (fun x2 => lt ((w32 x2) + (w32 a2)) (fun x3 => jn (fun s2 => some (-1, s2)) (fun (j1 : Mem → PR) => if w64 x3 < w64 1 then j1 s1 else if w64 x3 ≤ w64 99 then bnd (fX6_totalNow fu s1) (fun x4 s3 => wrI s3 (p2 + 2) 8 a1 x3 (fun s4 => bnd (fX2_findTotal fu s4) (fun _ s5 => wrI s5 (p2 + 2) 8 a1 x2 (fun s6 => bnd (fX6_tellDifference fu x4 s6) (fun x5 s7 => some (x5, s7)))))) else j1 s1))))) else some (-1, s1))
def fX6_skips (fu : Nat) (a0 : Int) (a1 : Int) (σ : Mem) : PR := bnd (fX2_hasStep fu a0 a1 σ) (fun x1 s1 => jn (fun s2 => some (-1, s2)) (fun (j1 : Mem → PR) => if w32 x1 = 0 then j1 s1 else if w32 a1 ≠ 0 then bnd (fX6_totalNow fu s1) (fun x2 s3 => rfd (s3 136 0) (fun p1 => rdR s3 p1 12 a0 (fun p2 => bnd (fX2_findTotalSkipping fu p2 a1 s3) (fun _ s4 => bnd (fX6_tellDifference fu x2 s4) (fun x3 s5 => some (x3, s5)))))) else j1 s1))
def fX6_uses (fu : Nat) (a0 : Int) (a1 : Int) (σ : Mem) : PR := bnd (fX6_isStop fu a0 σ) (fun x1 s1 => jn (fun s2 => some (-1, s2)) (fun (j1 : Mem → PR) => if w32 x1 = 0 then j1 s1 else bnd (fX2_hasLine fu a1 s1) (fun x2 s3 => if w32 x2 ≠ 0 then bnd (fX2_findCosts fu s3) (fun _ s4 => rdS a0 (fun p1 => if w32 (s4 p1 2) ≠ w32 (-1) then bnd (fX2_spreadLoadsOf fu a0 1000 s4) (fun _ s5 => bnd (fX2_changing fu s5) (fun x3 s6 => bnd (fX3_putOne fu (w32 x3) s6) (fun _ s7 => rfd (s7 136 0) (fun p2 => rdR s7 p2 12 a1 (fun p3 => bnd (fX1_allEntering fu p3 s7) (fun x4 s8 => some (x4, s8))))))) else some (-2, s4))) else j1 s3)))
def fX6_centre_L10 (fu : Nat) (k115 : Int → Int → Int → Mem → PR) : Nat → Int → Int → Int → Int → Mem → PR
  | 0, _, _, _, _, _ => none
  | n + 1, x1, x2, x3, x4, s1 => if w32 10 ≤ w32 x4 then k115 x1 x2 x3 s1 else bnd (fX6_findTotalTowards fu x4 s1) (fun _ s2 => jn (fun x8 s3 => jn (fun x9 s4 => jn (fun x10 x11 x12 s5 => fX6_centre_L10 fu k115 n x10 x11 x12 (x4 + 1) s5) (fun (j3 : Int → Int → Int → Mem → PR) => jn (fun s6 => lt (s6 136 9) (fun x13 => lt (s6 136 8) (fun x14 => j3 x4 x13 x14 s6))) (fun (j4 : Mem → PR) => if w32 x4 = 0 then j4 s4 else if w32 x8 ≠ 0 then j4 s4 else if w32 x9 = 0 then j3 x1 x2 x3 s4 else j4 s4))) (fun (j2 : Int → Mem → PR) => jn (fun s9 => j2 0 s9) (fun (j5 : Mem → PR) => if w64 (s3 136 9) ≠ w64 x2 then j5 s3 else if w64 x3 ≤ w64 (s3 136 8) then j5 s3 else j2 1 s3))) (fun (j1 : Int → Mem → PR) => if w64 x2 ≤ w64 (s2 136 9) then j1 0 s2 else j1 1 s2))
def fX6_centre (fu : Nat) (σ : Mem) : PR := fX6_centre_L10 fu (fun x15 x16 x17 s15 => bnd (fX3_putTwo fu x17 x16 s15) (fun _ s16 => some (x15, s16))) fu 0 0 0 0 σ
def fX6_spare_L19 (fu : Nat) (c1 : Int) (c2 : Int) (k112 : Int → Mem → PR) : Nat → Int → Int → Mem → PR
  | 0, _, _, _ => none
  | n + 1, x3, x4, s2 => if w32 (s2 136 1) ≤ w32 x4 then k112 x3 s2 else rfd (s2 136 0) (fun p1 => rdR s2 p1 12 x4 (fun p2 => jn (fun x6 s3 => fX6_spare_L19 fu c1 c2 k112 n x6 (x4 + 1) s3) (fun (j1 : Int → Mem → PR) => if w32 (s2 p2 4) ≠ 0 then j1 x3 s2 else stz s2 p2 4 1 (fun s4 => bnd (fX2_findTotal fu s4) (fun _ s5 => jn (fun s6 => stz s6 p2 4 0 (fun s7 => j1 x3 s7)) (fun (j2 : Mem → PR) => if w64 (s5 136 8) ≠ w64 c1 then j2 s5 else if w64 (s5 136 9) ≠ w64 c2 then j2 s5 else lt (or32 x3 (shl32 1 x4)) (fun x7 => j1 x7 s5)))))))
def fX6_spare (fu : Nat) (σ : Mem) : PR := bnd (fX6_totalNow fu σ) (fun x1 s1 => lt (s1 136 9) (fun x2 => fX6_spare_L19 fu x1 x2 (fun x8 s12 => bnd (fX2_bringBack fu x8 s12) (fun _ s13 => bnd (fJ6_bitCount_0f7a4 fu x8 s13) (fun x9 s14 => bnd (fX3_putOne fu (w32 x9) s14) (fun _ s15 => some (x8, s15))))) fu 0 0 s1))
def fX6_offset (fu : Nat) (a0 : Int) (a1 : Int) (σ : Mem) : PR := bnd (fX2_hasLine fu a0 σ) (fun x1 s1 => jn (fun s2 => some (-1, s2)) (fun (j1 : Mem → PR) => if w32 x1 = 0 then j1 s1 else if w32 a1 < 0 then j1 s1 else if w32 a1 ≤ w32 59 then rfd (s1 136 0) (fun p1 => rdR s1 p1 12 a0 (fun p2 => lt (s1 p2 3) (fun x2 => rfd (s1 136 0) (fun p3 => rdR s1 p3 12 a0 (fun p4 => stf s1 p4 3 a1 (fun s3 => some (x2, s3))))))) else j1 s1))
def fX6_isStart (fu : Nat) (a0 : Int) (σ : Mem) : PR := jn (fun x1 s1 => rtz x1 s1) (fun (j1 : Int → Mem → PR) => jn (fun s2 => j1 0 s2) (fun (j2 : Mem → PR) => if w32 a0 < 0 then j2 σ else if w32 100000 < w32 a0 then j2 σ else j1 1 σ))
def fX6_comes (fu : Nat) (a0 : Int) (a1 : Int) (a2 : Int) (σ : Mem) : PR := bnd (fX2_hasHalt fu a0 a1 σ) (fun x1 s1 => jn (fun s2 => some (-1, s2)) (fun (j1 : Mem → PR) => if w32 x1 = 0 then j1 s1 else bnd (fX6_isStart fu a2 s1) (fun x2 s3 => if w32 x2 ≠ 0 then rfd (s3 136 0) (fun p1 => rdR s3 p1 12 a0 (fun p2 => bnd (fX1_firstAt fu p2 a1 a2 s3) (fun x3 s4 => some (x3, s4)))) else j1 s3)))
def fX6_journey_L66 (fu : Nat) (c1 : Int) (k120 : Mem → PR) : Nat → Int → Mem → PR
  | 0, _, _ => none
  | n + 1, x4, s7 => if w32 (s7 325 2) ≤ w32 x4 then k120 s7 else rdI s7 326 8 x4 (fun x5 => bnd (fX3_put fu (w32 x5) s7) (fun _ s8 => rdI s8 327 8 x4 (fun x6 => bnd (fX3_put fu (w32 x6) s8) (fun _ s9 => fX6_journey_L66 fu c1 k120 n (x4 + 1) s9))))
def fX6_journey (fu : Nat) (a0 : Int) (a1 : Int) (σ : Mem) : PR := bnd (fX6_isStop fu a0 σ) (fun x1 s1 => jn (fun s2 => some (-1, s2)) (fun (j1 : Mem → PR) => if w32 x1 = 0 then j1 s1 else bnd (fX6_isStart fu a1 s1) (fun x2 s3 => if w32 x2 ≠ 0 then bnd (fX2_findCosts fu s3) (fun _ s4 => rdS a0 (fun p1 => if w32 (s4 p1 2) ≠ w32 (-1) then bnd (fX0_takes fu a0 a1 s4) (fun x3 s5 => bnd (fX3_empty fu s5) (fun _ s6 => fX6_journey_L66 fu x3 (fun s12 => some (x3, s12)) fu 0 s6)) else some (-2, s4))) else j1 s3)))
def fX6_usual_L58 (fu : Nat) (c1 : Int) (c2 : Int) (k113 : Int → Int → Int → Mem → PR) : Nat → Int → Int → Int → Int → Mem → PR
  | 0, _, _, _, _, _ => none
  | n + 1, x2, x3, x4, x5, s4 => if w32 c2 ≤ w32 x5 then k113 x2 x3 x4 s4 else bnd (fX0_takes fu c1 (100 * x5) s4) (fun x9 s5 => lt (x2 + (w32 x9)) (fun x10 => lt (min32 x3 x9) (fun x11 => lt (max32 x4 x9) (fun x12 => fX6_usual_L58 fu c1 c2 k113 n x10 x11 x12 (x5 + 1) s5))))
def fX6_usual (fu : Nat) (a0 : Int) (a1 : Int) (σ : Mem) : PR := bnd (fX6_isStop fu a0 σ) (fun x1 s1 => jn (fun s2 => some (-1, s2)) (fun (j1 : Mem → PR) => if w32 x1 = 0 then j1 s1 else if w32 a1 < w32 1 then j1 s1 else if w32 a1 ≤ w32 60 then bnd (fX2_findCosts fu s1) (fun _ s3 => rdS a0 (fun p1 => if w32 (s3 p1 2) ≠ w32 (-1) then fX6_usual_L58 fu a0 a1 (fun x13 x14 x15 s8 => bnd (fX3_putTwo fu (w32 x14) (w32 x15) s8) (fun _ s9 => bnd (fX6_parts fu x13 (w32 a1) s9) (fun x16 s10 => some (x16, s10)))) fu 0 2147483647 0 0 s3 else some (-2, s3))) else j1 s1))
def fX6_count (fu : Nat) (a0 : Int) (σ : Mem) : PR := if w32 a0 < 0 ∨ 12 < w32 a0 then some (-1, σ) else if w32 a0 = 0 then some (σ 136 1, σ) else if w32 a0 = 1 then some (σ 136 3, σ) else if w32 a0 = 2 then some (σ 136 4, σ) else if w32 a0 = 3 then bnd (fX2_allRiders fu σ) (fun x1 s1 => some (x1, s1)) else if w32 a0 = 4 then some (σ 136 5, σ) else if w32 a0 = 5 then some (σ 136 6, σ) else if w32 a0 = 6 then bnd (fX2_allSteps fu σ) (fun x2 s2 => some (x2, s2)) else if w32 a0 = 7 then bnd (fX2_closedStops fu σ) (fun x3 s3 => some (x3, s3)) else if w32 a0 = 8 then bnd (fX2_outLines fu σ) (fun x4 s4 => some (x4, s4)) else if w32 a0 = 9 then some (σ 323 1, σ) else if w32 a0 = 10 then some (σ 1 1, σ) else if w32 a0 = 11 then bnd (fX2_findCosts fu σ) (fun _ s5 => bnd (fX2_linesInNoSet fu s5) (fun x5 s6 => some (x5, s6))) else if w32 a0 = 12 then bnd (fX2_findCosts fu σ) (fun _ s7 => bnd (fX2_stopsWithin fu 2147483647 s7) (fun x6 s8 => some (x6, s8))) else none
def fX6_row (fu : Nat) (a0 : Int) (σ : Mem) : PR := jn (fun s1 => none) (fun (j1 : Mem → PR) => if w32 a0 < 0 then j1 σ else if w32 a0 < w32 (σ 323 1) then rdI σ 324 16 a0 (fun x1 => some (x1, σ)) else j1 σ)
def fX7_thrown (fu : Nat) (σ : Mem) : PR := some (σ 328 20, σ)
def fX7_in (fu : Nat) (a0 : Int) (a1 : Int) (a2 : Int) (σ : Mem) : PR := jn (fun x1 s1 => rtz x1 s1) (fun (j1 : Int → Mem → PR) => jn (fun s2 => j1 0 s2) (fun (j2 : Mem → PR) => if w64 a0 < w64 a1 then j2 σ else if w64 a2 < w64 a0 then j2 σ else j1 1 σ))
def fX7_lost (fu : Nat) (σ : Mem) : PR := stf σ 328 20 1 (fun s1 => some (0, s1))
def fX7_tell (fu : Nat) (a0 : Int) (σ : Mem) : PR := wrI σ 341 32 (σ 328 19) a0 (fun s1 => stf s1 328 19 ((s1 328 19) + 1) (fun s2 => some (0, s2)))
def fX7_sign_L21 (fu : Nat) (c1 : Int) (k54 : Mem → PR) : Nat → Int → Mem → PR
  | 0, _, _ => none
  | n + 1, x1, s2 => if w32 x1 < 0 then k54 s2 else stf s2 328 17 ((s2 328 17) + 1) (fun s3 => wrI s3 340 400 (s2 328 17) (n8 (b8 (shr32 c1 (8 * x1)))) (fun s4 => fX7_sign_L21 fu c1 k54 n (x1 + (-1)) s4))
def fX7_sign (fu : Nat) (a0 : Int) (σ : Mem) : PR := stf σ 328 20 0 (fun s1 => if w32 ((s1 328 17) + 4) ≤ w32 400 then fX7_sign_L21 fu a0 (fun s7 => some (s7 328 17, s7)) fu 3 s1 else some (-1, s1))
def fX7_end (fu : Nat) (a0 : Int) (σ : Mem) : PR := stf σ 328 20 0 (fun s1 => bnd (fX7_in fu (w32 a0) 0 (w32 (s1 328 17)) s1) (fun x1 s2 => if w32 x1 ≠ 0 then stf s2 328 17 a0 (fun s3 => rtz 1 s3) else rtz 0 s2))
def fX7_isLine (fu : Nat) (a0 : Int) (σ : Mem) : PR := bnd (fX7_in fu (w32 a0) 0 (w32 ((σ 328 9) - 1)) σ) (fun x1 s1 => rtz x1 s1)
def fX7_isStop (fu : Nat) (a0 : Int) (σ : Mem) : PR := bnd (fX7_in fu (w32 a0) 0 9 σ) (fun x1 s1 => rtz x1 s1)
def fX7_at (fu : Nat) (a0 : Int) (a1 : Int) (σ : Mem) : PR := some ((8 * a0) + a1, σ)
def fX7_isHalt (fu : Nat) (a0 : Int) (a1 : Int) (σ : Mem) : PR := bnd (fX7_isLine fu a0 σ) (fun x1 s1 => jn (fun x2 s2 => rtz x2 s2) (fun (j1 : Int → Mem → PR) => jn (fun s3 => j1 0 s3) (fun (j2 : Mem → PR) => if w32 x1 = 0 then j2 s1 else rdI s1 330 12 a0 (fun x3 => bnd (fX7_in fu (w32 a1) 0 (w32 (x3 - 1)) s1) (fun x4 s4 => if w32 x4 = 0 then j2 s4 else j1 1 s4)))))
def fX7_isStep (fu : Nat) (a0 : Int) (a1 : Int) (σ : Mem) : PR := bnd (fX7_isLine fu a0 σ) (fun x1 s1 => jn (fun x2 s2 => rtz x2 s2) (fun (j1 : Int → Mem → PR) => jn (fun s3 => j1 0 s3) (fun (j2 : Mem → PR) => if w32 x1 = 0 then j2 s1 else rdI s1 330 12 a0 (fun x3 => bnd (fX7_in fu (w32 a1) 0 (w32 (x3 - 2)) s1) (fun x4 s4 => if w32 x4 = 0 then j2 s4 else j1 1 s4)))))
def fX7_begin (fu : Nat) (σ : Mem) : PR := stf σ 328 26 (σ 328 17) (fun s1 => stf s1 328 17 0 (fun s2 => stf s2 328 27 0 (fun s3 => stf s3 328 28 (-1) (fun s4 => stf s4 328 25 0 (fun s5 => some (0, s5))))))
def fX7_sees (fu : Nat) (σ : Mem) : PR := jn (fun x1 s1 => some (x1, s1)) (fun (j1 : Int → Mem → PR) => if w32 (σ 328 26) ≤ w32 (σ 328 27) then j1 (-1) σ else rdI σ 340 400 (σ 328 27) (fun x2 => j1 (and32 x2 255) σ))
def fX7_fault (fu : Nat) (a0 : Int) (σ : Mem) : PR := jn (fun s1 => some (0, s1)) (fun (j1 : Mem → PR) => if w32 (σ 328 28) ≠ w32 (-1) then j1 σ else stf σ 328 28 a0 (fun s2 => j1 s2))
def fX7_readNumber_L4 (fu : Nat) (c1 : Int) (k55 : Int → Int → Mem → PR) : Nat → Int → Int → Mem → PR
  | 0, _, _, _ => none
  | n + 1, x1, x2, s1 => if w32 2 ≤ w32 x2 then k55 x1 x2 s1 else bnd (fX7_sees fu s1) (fun x5 s2 => bnd (fX7_in fu (w32 x5) 48 57 s2) (fun x6 s3 => if w32 x6 = 0 then k55 x1 x2 s3 else bnd (fX7_sees fu s3) (fun x7 s4 => lt (((10 * x1) + x7) - 48) (fun x8 => stf s4 328 27 ((s4 328 27) + 1) (fun s5 => fX7_readNumber_L4 fu c1 k55 n x8 (x2 + 1) s5)))))
def fX7_readNumber (fu : Nat) (a0 : Int) (σ : Mem) : PR := fX7_readNumber_L4 fu a0 (fun x9 x10 s8 => jn (fun s9 => some (x9, s9)) (fun (j1 : Mem → PR) => if w32 x10 ≠ 0 then bnd (fX7_in fu (w32 x9) 1 (w32 a0) s8) (fun x11 s10 => if w32 x11 ≠ 0 then j1 s10 else bnd (fX7_fault fu ((s10 328 27) - 1) s10) (fun _ s11 => j1 s11)) else bnd (fX7_fault fu (s8 328 27) s8) (fun _ s12 => j1 s12))) fu 0 0 σ
def fX7_readStop_L24 (fu : Nat) (c1 : Int) (k70 : Int → Mem → PR) : Nat → Int → Int → Mem → PR
  | 0, _, _, _ => none
  | n + 1, x4, x5, s3 => rdI s3 343 12 (s3 328 25) (fun x7 => if w32 x7 ≤ w32 x5 then k70 x4 s3 else if w32 x4 = 0 then k70 x4 s3 else bnd (fX7_at fu (s3 328 25) x5 s3) (fun x8 s4 => rdI s4 344 96 x8 (fun x9 => jn (fun x10 s5 => fX7_readStop_L24 fu c1 k70 n x10 (x5 + 1) s5) (fun (j1 : Int → Mem → PR) => if w32 x9 = w32 c1 then j1 0 s4 else j1 1 s4))))
def fX7_readStop (fu : Nat) (σ : Mem) : PR := if w32 (σ 328 28) = w32 (-1) then bnd (fX7_sees fu σ) (fun x1 s1 => lt (x1 - 48) (fun x2 => bnd (fX7_isStop fu x2 s1) (fun x3 s2 => fX7_readStop_L24 fu x2 (fun x11 s9 => if w32 x11 ≠ 0 then stf s9 328 27 ((s9 328 27) + 1) (fun s10 => rdI s10 343 12 (s10 328 25) (fun x12 => bnd (fX7_at fu (s10 328 25) x12 s10) (fun x13 s11 => wrI s11 344 96 x13 x2 (fun s12 => rdI s12 343 12 (s12 328 25) (fun x14 => wrI s12 343 12 (s12 328 25) (x14 + 1) (fun s13 => some (0, s13))))))) else bnd (fX7_fault fu (s9 328 27) s9) (fun _ s14 => some (0, s14))) fu x3 0 s2))) else some (0, σ)
def fX7_expect (fu : Nat) (a0 : Int) (σ : Mem) : PR := if w32 (σ 328 28) = w32 (-1) then bnd (fX7_sees fu σ) (fun x1 s1 => jn (fun s2 => some (0, s2)) (fun (j1 : Mem → PR) => if w32 x1 ≠ w32 a0 then bnd (fX7_fault fu (s1 328 27) s1) (fun _ s3 => j1 s3) else stf s1 328 27 ((s1 328 27) + 1) (fun s4 => j1 s4))) else some (0, σ)
def fX7_readsBack_L41 (fu : Nat) (c1 : Int) (c2 : Int) (k79 : Mem → PR) : Nat → Int → Mem → PR
  | 0, _, _ => none
  | n + 1, x4, s3 => if w32 c2 ≤ w32 x4 then k79 s3 else bnd (fX7_at fu (s3 328 25) x4 s3) (fun x5 s4 => bnd (fX7_at fu c1 ((c2 - 1) - x4) s4) (fun x6 s5 => rdI s5 344 96 x6 (fun x7 => wrI s5 344 96 x5 x7 (fun s6 => fX7_readsBack_L41 fu c1 c2 k79 n (x4 + 1) s6))))
def fX7_readsBack_L81 (fu : Nat) (c3 : Int) (c4 : Int) (k121 : Mem → PR) : Nat → Int → Mem → PR
  | 0, _, _ => none
  | n + 1, x8, s10 => if w32 (c4 - 1) ≤ w32 x8 then k121 s10 else bnd (fX7_at fu (s10 328 25) x8 s10) (fun x9 s11 => bnd (fX7_at fu c3 ((c4 - 2) - x8) s11) (fun x10 s12 => rdI s12 345 96 x10 (fun x11 => wrI s12 345 96 x9 x11 (fun s13 => fX7_readsBack_L81 fu c3 c4 k121 n (x8 + 1) s13))))
def fX7_readsBack (fu : Nat) (σ : Mem) : PR := lt ((σ 328 25) - 1) (fun x1 => rdI σ 343 12 x1 (fun x2 => rdI σ 342 12 x1 (fun x3 => wrI σ 342 12 (σ 328 25) x3 (fun s1 => wrI s1 343 12 (s1 328 25) x2 (fun s2 => fX7_readsBack_L41 fu x1 x2 (fun s9 => fX7_readsBack_L81 fu x1 x2 (fun s16 => stf s16 328 25 ((s16 328 25) + 1) (fun s17 => some (0, s17))) fu 0 s9) fu 0 s2)))))
def fX7_readLine_L121 (fu : Nat) (c1 : Int) (k135 : Mem → PR) (k210 : Mem → PR) : Nat → Mem → PR
  | 0, _ => none
  | n + 1, s9 => bnd (fX7_expect fu 45 s9) (fun _ s10 => if w32 (s10 328 28) = w32 (-1) then bnd (fX7_readNumber fu 99 s10) (fun x5 s11 => bnd (fX7_expect fu 45 s11) (fun _ s12 => rdI s12 343 12 (s12 328 25) (fun x6 => bnd (fX7_at fu (s12 328 25) (x6 - 1) s12) (fun x7 s13 => wrI s13 345 96 x7 x5 (fun s14 => bnd (fX7_readStop fu s14) (fun _ s15 => if w32 (s15 328 28) ≠ w32 (-1) then k210 s15 else bnd (fX7_sees fu s15) (fun x8 s16 => if w32 x8 ≠ w32 45 then k210 s16 else rdI s16 343 12 (s16 328 25) (fun x9 => if w32 x9 < w32 8 then fX7_readLine_L121 fu c1 k135 k210 n s16 else k210 s16)))))))) else k135 s10)
def fX7_readLine (fu : Nat) (a0 : Int) (σ : Mem) : PR := lt (σ 328 27) (fun x1 => if w32 (a0 + (σ 328 25)) ≠ w32 12 then wrI σ 343 12 (σ 328 25) 0 (fun s1 => bnd (fX7_readNumber fu 60 s1) (fun x2 s2 => wrI s2 342 12 (s1 328 25) x2 (fun s3 => bnd (fX7_sees fu s3) (fun x3 s4 => jn (fun x4 s5 => jn (fun s6 => jn (fun s7 => bnd (fX7_readStop fu s7) (fun _ s8 => fX7_readLine_L121 fu x4 (fun s20 => some (0, s20)) (fun s21 => stf s21 328 25 ((s21 328 25) + 1) (fun s22 => jn (fun s23 => some (0, s23)) (fun (j4 : Mem → PR) => if w32 x4 = 0 then j4 s22 else bnd (fX7_readsBack fu s22) (fun _ s24 => j4 s24)))) fu s8)) (fun (j3 : Mem → PR) => if w32 x4 = 0 then bnd (fX7_expect fu 58 s6) (fun _ s26 => j3 s26) else stf s6 328 27 ((s6 328 27) + 1) (fun s27 => j3 s27))) (fun (j2 : Mem → PR) => if w32 (s5 328 28) ≠ w32 (-1) then j2 s5 else if w32 x4 = 0 then j2 s5 else if w32 (a0 + (s5 328 25)) ≠ w32 11 then j2 s5 else bnd (fX7_fault fu x1 s5) (fun _ s29 => some (0, s29)))) (fun (j1 : Int → Mem → PR) => if w32 x3 ≠ w32 61 then j1 0 s4 else j1 1 s4))))) else bnd (fX7_fault fu (σ 328 27) σ) (fun _ s32 => some (0, s32)))
def fX7_takesRead_L63 (fu : Nat) (c1 : Int) (c2 : Int) (k137 : Mem → PR) : Nat → Int → Mem → PR
  | 0, _, _ => none
  | n + 1, x5, s7 => if w32 8 ≤ w32 x5 then k137 s7 else bnd (fX7_at fu c2 x5 s7) (fun x6 s8 => bnd (fX7_at fu c1 x5 s8) (fun x7 s9 => rdI s9 344 96 x7 (fun x8 => wrI s9 331 96 x6 x8 (fun s10 => bnd (fX7_at fu c2 x5 s10) (fun x9 s11 => bnd (fX7_at fu c1 x5 s11) (fun x10 s12 => rdI s12 345 96 x10 (fun x11 => wrI s12 332 96 x9 x11 (fun s13 => bnd (fX7_at fu c2 x5 s13) (fun x12 s14 => wrI s14 333 96 x12 0 (fun s15 => bnd (fX7_at fu c2 x5 s15) (fun x13 s16 => wrI s16 334 96 x13 0 (fun s17 => fX7_takesRead_L63 fu c1 c2 k137 n (x5 + 1) s17))))))))))))
def fX7_takesRead_L2 (fu : Nat) (k153 : Mem → PR) : Nat → Int → Mem → PR
  | 0, _, _ => none
  | n + 1, x1, s1 => if w32 (s1 328 25) ≤ w32 x1 then k153 s1 else lt (s1 328 9) (fun x2 => rdI s1 342 12 x1 (fun x3 => wrI s1 329 12 x2 x3 (fun s2 => rdI s2 343 12 x1 (fun x4 => wrI s2 330 12 x2 x4 (fun s3 => wrI s3 335 12 x2 50 (fun s4 => wrI s4 336 12 x2 0 (fun s5 => wrI s5 337 12 x2 (n1 0) (fun s6 => fX7_takesRead_L63 fu x1 x2 (fun s20 => stf s20 328 9 ((s20 328 9) + 1) (fun s21 => fX7_takesRead_L2 fu k153 n (x1 + 1) s21)) fu 0 s6))))))))
def fX7_takesRead (fu : Nat) (σ : Mem) : PR := fX7_takesRead_L2 fu (fun s24 => some (0, s24)) fu 0 σ
def fX7_net_L21 (fu : Nat) (k84 : Mem → PR) : Nat → Mem → PR
  | 0, _ => none
  | n + 1, s4 => if w32 (s4 328 28) ≠ w32 (-1) then k84 s4 else bnd (fX7_sees fu s4) (fun x1 s5 => if w32 x1 ≠ w32 59 then k84 s5 else stf s5 328 27 ((s5 328 27) + 1) (fun s6 => bnd (fX7_sees fu s6) (fun x2 s7 => bnd (fX7_in fu (w32 x2) 48 57 s7) (fun x3 s8 => if w32 x3 = 0 then bnd (fX7_fault fu (s8 328 27) s8) (fun _ s9 => fX7_net_L21 fu k84 n s9) else bnd (fX7_readLine fu 0 s8) (fun _ s10 => fX7_net_L21 fu k84 n s10)))))
def fX7_net_L143 (fu : Nat) (k162 : Mem → PR) : Nat → Int → Mem → PR
  | 0, _, _ => none
  | n + 1, x4, s18 => if w32 10 ≤ w32 x4 then k162 s18 else wrI s18 339 10 x4 (n1 0) (fun s19 => fX7_net_L143 fu k162 n (x4 + 1) s19)
def fX7_net (fu : Nat) (σ : Mem) : PR := stf σ 328 20 0 (fun s1 => bnd (fX7_begin fu s1) (fun _ s2 => jn (fun s3 => fX7_net_L21 fu (fun s13 => jn (fun s14 => if w32 (s14 328 28) = w32 (-1) then stf s14 328 9 0 (fun s15 => bnd (fX7_takesRead fu s15) (fun _ s16 => stf s16 328 13 0 (fun s17 => fX7_net_L143 fu (fun s22 => some (s22 328 9, s22)) fu 0 s17))) else some ((-21) - (s14 328 28), s14)) (fun (j2 : Mem → PR) => if w32 (s13 328 28) ≠ w32 (-1) then j2 s13 else if w32 (s13 328 26) ≤ w32 (s13 328 27) then j2 s13 else bnd (fX7_fault fu (s13 328 27) s13) (fun _ s23 => j2 s23))) fu s3) (fun (j1 : Mem → PR) => if w32 (s2 328 26) ≤ 0 then j1 s2 else bnd (fX7_readLine fu 0 s2) (fun _ s25 => j1 s25))))
def fX7_adds (fu : Nat) (σ : Mem) : PR := stf σ 328 20 0 (fun s1 => bnd (fX7_begin fu s1) (fun _ s2 => jn (fun s3 => jn (fun s4 => jn (fun s5 => if w32 (s5 328 28) = w32 (-1) then bnd (fX7_takesRead fu s5) (fun _ s6 => some (s6 328 9, s6)) else some ((-21) - (s5 328 28), s5)) (fun (j3 : Mem → PR) => if w32 (s4 328 28) ≠ w32 (-1) then j3 s4 else if w32 (s4 328 26) ≤ w32 (s4 328 27) then j3 s4 else bnd (fX7_fault fu (s4 328 27) s4) (fun _ s7 => j3 s7))) (fun (j2 : Mem → PR) => if w32 (s3 328 28) ≠ w32 (-1) then j2 s3 else bnd (fX7_readLine fu (s3 328 9) s3) (fun _ s9 => j2 s9))) (fun (j1 : Mem → PR) => if w32 (s2 328 9) ≠ w32 12 then j1 s2 else bnd (fX7_sees fu s2) (fun x1 s11 => bnd (fX7_in fu (w32 x1) 48 57 s11) (fun x2 s12 => if w32 x2 = 0 then j1 s12 else bnd (fX7_fault fu 0 s12) (fun _ s13 => j1 s13))))))
def fX7_drops_L107 (fu : Nat) (c1 : Int) (k207 : Mem → PR) : Nat → Int → Mem → PR
  | 0, _, _ => none
  | n + 1, x8, s10 => if w32 8 ≤ w32 x8 then k207 s10 else bnd (fX7_at fu c1 x8 s10) (fun x9 s11 => bnd (fX7_at fu (c1 + 1) x8 s11) (fun x10 s12 => rdI s12 331 96 x10 (fun x11 => wrI s12 331 96 x9 x11 (fun s13 => bnd (fX7_at fu c1 x8 s13) (fun x12 s14 => bnd (fX7_at fu (c1 + 1) x8 s14) (fun x13 s15 => rdI s15 332 96 x13 (fun x14 => wrI s15 332 96 x12 x14 (fun s16 => bnd (fX7_at fu c1 x8 s16) (fun x15 s17 => bnd (fX7_at fu (c1 + 1) x8 s17) (fun x16 s18 => rdI s18 333 96 x16 (fun x17 => wrI s18 333 96 x15 x17 (fun s19 => bnd (fX7_at fu c1 x8 s19) (fun x18 s20 => bnd (fX7_at fu (c1 + 1) x8 s20) (fun x19 s21 => rdI s21 334 96 x19 (fun x20 => wrI s21 334 96 x18 x20 (fun s22 => fX7_drops_L107 fu c1 k207 n (x8 + 1) s22))))))))))))))))
def fX7_drops_L27 (fu : Nat) (k213 : Mem → PR) : Nat → Int → Mem → PR
  | 0, _, _ => none
  | n + 1, x2, s4 => if w32 (s4 328 9) ≤ w32 x2 then k213 s4 else rdI s4 329 12 (x2 + 1) (fun x3 => wrI s4 329 12 x2 x3 (fun s5 => rdI s5 330 12 (x2 + 1) (fun x4 => wrI s5 330 12 x2 x4 (fun s6 => rdI s6 335 12 (x2 + 1) (fun x5 => wrI s6 335 12 x2 x5 (fun s7 => rdI s7 336 12 (x2 + 1) (fun x6 => wrI s7 336 12 x2 x6 (fun s8 => rdI s8 337 12 (x2 + 1) (fun x7 => wrI s8 337 12 x2 (n1 x7) (fun s9 => fX7_drops_L107 fu x2 (fun s25 => fX7_drops_L27 fu k213 n (x2 + 1) s25) fu 0 s9))))))))))
def fX7_drops (fu : Nat) (a0 : Int) (σ : Mem) : PR := stf σ 328 20 0 (fun s1 => bnd (fX7_isLine fu a0 s1) (fun x1 s2 => if w32 x1 ≠ 0 then stf s2 328 9 ((s2 328 9) - 1) (fun s3 => fX7_drops_L27 fu (fun s28 => some (s28 328 9, s28)) fu a0 s3) else some (-1, s2)))
def fX7_waiting (fu : Nat) (a0 : Int) (σ : Mem) : PR := stf σ 328 20 0 (fun s1 => bnd (fX7_in fu (w32 a0) 1 100 s1) (fun x1 s2 => if w32 x1 ≠ 0 then lt (s2 328 10) (fun x2 => stf s2 328 10 a0 (fun s3 => some (x2, s3))) else some (-1, s2)))
def fX7_goal (fu : Nat) (a0 : Int) (σ : Mem) : PR := stf σ 328 20 0 (fun s1 => bnd (fX7_isStop fu a0 s1) (fun x1 s2 => if w32 x1 ≠ 0 then lt (s2 328 11) (fun x2 => stf s2 328 11 a0 (fun s3 => some (x2, s3))) else some (-1, s2)))
def fX7_riders (fu : Nat) (a0 : Int) (a1 : Int) (σ : Mem) : PR := stf σ 328 20 0 (fun s1 => bnd (fX7_isStop fu a0 s1) (fun x1 s2 => jn (fun s3 => some (-1, s3)) (fun (j1 : Mem → PR) => if w32 x1 = 0 then j1 s2 else bnd (fX7_in fu (w32 a1) 0 9999 s2) (fun x2 s4 => if w32 x2 ≠ 0 then rdI s4 338 10 a0 (fun x3 => wrI s4 338 10 a0 a1 (fun s5 => some (x3, s5))) else j1 s4))))
def fX7_outMany_L4 (fu : Nat) (k35 : Int → Mem → PR) : Nat → Int → Int → Mem → PR
  | 0, _, _, _ => none
  | n + 1, x1, x2, s1 => if w32 (s1 328 9) ≤ w32 x2 then k35 x1 s1 else rdI s1 337 12 x2 (fun x4 => jn (fun x5 s2 => lt (x1 + x5) (fun x6 => fX7_outMany_L4 fu k35 n x6 (x2 + 1) s2)) (fun (j1 : Int → Mem → PR) => if w32 x4 = 0 then j1 0 s1 else j1 1 s1))
def fX7_outMany (fu : Nat) (σ : Mem) : PR := fX7_outMany_L4 fu (fun x7 s6 => some (x7, s6)) fu 0 0 σ
def fX7_out (fu : Nat) (a0 : Int) (a1 : Int) (σ : Mem) : PR := stf σ 328 20 0 (fun s1 => bnd (fX7_isLine fu a0 s1) (fun x1 s2 => if w32 x1 ≠ 0 then rdI s2 337 12 a0 (fun x2 => if w32 x2 ≠ w32 a1 then wrI s2 337 12 a0 (n1 a1) (fun s3 => bnd (fX7_outMany fu s3) (fun x3 s4 => some (x3, s4))) else some (-2, s2)) else some (-1, s2)))
def fX7_closes_L39 (fu : Nat) (k70 : Int → Mem → PR) : Nat → Int → Int → Mem → PR
  | 0, _, _, _ => none
  | n + 1, x3, x4, s4 => if w32 10 ≤ w32 x4 then k70 x3 s4 else rdI s4 339 10 x4 (fun x6 => jn (fun x7 s5 => lt (x3 + x7) (fun x8 => fX7_closes_L39 fu k70 n x8 (x4 + 1) s5)) (fun (j1 : Int → Mem → PR) => if w32 x6 = 0 then j1 0 s4 else j1 1 s4))
def fX7_closes (fu : Nat) (a0 : Int) (a1 : Int) (σ : Mem) : PR := stf σ 328 20 0 (fun s1 => bnd (fX7_isStop fu a0 s1) (fun x1 s2 => if w32 x1 ≠ 0 then rdI s2 339 10 a0 (fun x2 => if w32 x2 ≠ w32 a1 then wrI s2 339 10 a0 (n1 a1) (fun s3 => fX7_closes_L39 fu (fun x9 s9 => some (x9, s9)) fu 0 0 s3) else some (-2, s2)) else some (-1, s2)))
def fX7_often (fu : Nat) (a0 : Int) (a1 : Int) (σ : Mem) : PR := stf σ 328 20 0 (fun s1 => bnd (fX7_isLine fu a0 s1) (fun x1 s2 => jn (fun s3 => some (-1, s3)) (fun (j1 : Mem → PR) => if w32 x1 = 0 then j1 s2 else bnd (fX7_in fu (w32 a1) 1 60 s2) (fun x2 s4 => if w32 x2 ≠ 0 then rdI s4 329 12 a0 (fun x3 => wrI s4 329 12 a0 a1 (fun s5 => some (x3, s5))) else j1 s4))))
def fX7_line (fu : Nat) (a0 : Int) (a1 : Int) (σ : Mem) : PR := stf σ 328 20 0 (fun s1 => bnd (fX7_isLine fu a0 s1) (fun x1 s2 => if w32 x1 ≠ 0 then if w32 a1 < 0 ∨ 4 < w32 a1 then some (-1, s2) else if w32 a1 = 0 then rdI s2 329 12 a0 (fun x2 => some (x2, s2)) else if w32 a1 = 1 then rdI s2 330 12 a0 (fun x3 => some (x3, s2)) else if w32 a1 = 2 then rdI s2 335 12 a0 (fun x4 => some (x4, s2)) else if w32 a1 = 3 then rdI s2 336 12 a0 (fun x5 => some (x5, s2)) else if w32 a1 = 4 then rdI s2 337 12 a0 (fun x6 => jn (fun x7 s3 => some (x7, s3)) (fun (j1 : Int → Mem → PR) => if w32 x6 = 0 then j1 0 s2 else j1 1 s2)) else none else some (-1, s2)))
def fX7_stop (fu : Nat) (a0 : Int) (a1 : Int) (σ : Mem) : PR := stf σ 328 20 0 (fun s1 => bnd (fX7_isHalt fu a0 a1 s1) (fun x1 s2 => if w32 x1 ≠ 0 then stf s2 328 19 0 (fun s3 => rdI s3 330 12 a0 (fun x2 => jn (fun s4 => bnd (fX7_at fu a0 a1 s4) (fun x3 s5 => rdI s5 331 96 x3 (fun x4 => some (x4, s5)))) (fun (j1 : Mem → PR) => if w32 (x2 - 1) ≤ w32 a1 then j1 s3 else bnd (fX7_at fu a0 a1 s3) (fun x5 s6 => rdI s6 332 96 x5 (fun x6 => bnd (fX7_tell fu (w32 x6) s6) (fun _ s7 => bnd (fX7_at fu a0 a1 s7) (fun x7 s8 => rdI s8 333 96 x7 (fun x8 => bnd (fX7_tell fu x8 s8) (fun _ s9 => j1 s9))))))))) else some (-1, s2)))
def fX7_time (fu : Nat) (a0 : Int) (a1 : Int) (σ : Mem) : PR := bnd (fX7_at fu a0 a1 σ) (fun x1 s1 => rdI s1 332 96 x1 (fun x2 => bnd (fX7_at fu a0 a1 s1) (fun x3 s2 => rdI s2 333 96 x3 (fun x4 => some ((100 * (w32 x2)) + x4, s2)))))
def fX7_boardingAt (fu : Nat) (a0 : Int) (a1 : Int) (σ : Mem) : PR := bnd (fX7_at fu a0 (a1 + 1) σ) (fun x1 s1 => rdI s1 348 96 x1 (fun x2 => jn (fun x3 s2 => some (x3, s2)) (fun (j1 : Int → Mem → PR) => if w64 0 ≤ w64 x2 then bnd (fX7_time fu a0 a1 s1) (fun x4 s3 => j1 (x4 + x2) s3) else j1 (-1) s1)))
def fX7_laysAboard_L19 (fu : Nat) (c1 : Int) (k168 : Mem → PR) : Nat → Int → Mem → PR
  | 0, _, _ => none
  | n + 1, x4, s2 => if w32 x4 < 0 then k168 s2 else bnd (fX7_at fu c1 x4 s2) (fun x5 s3 => rdI s3 331 96 x5 (fun x6 => rdI s3 339 10 x6 (fun x7 => jn (fun x8 s4 => rdI s4 330 12 c1 (fun x9 => jn (fun x10 s5 => bnd (fX7_at fu c1 x4 s5) (fun x11 s6 => jn (fun x12 s7 => wrI s7 349 96 x11 (n1 x12) (fun s8 => bnd (fX7_at fu c1 x4 s8) (fun x13 s9 => bnd (fX7_at fu c1 x4 s9) (fun x14 s10 => rdI s10 349 96 x14 (fun x15 => jn (fun x16 s11 => wrI s11 348 96 x13 x16 (fun s12 => fX7_laysAboard_L19 fu c1 k168 n (x4 + (-1)) s12)) (fun (j4 : Int → Mem → PR) => if w32 x15 = 0 then j4 x10 s10 else j4 x8 s10)))))) (fun (j3 : Int → Mem → PR) => jn (fun s14 => j3 0 s14) (fun (j5 : Mem → PR) => if w64 x8 < w64 0 then j5 s6 else jn (fun s15 => j3 1 s15) (fun (j6 : Mem → PR) => if w64 x10 < w64 0 then j6 s6 else if w64 x10 < w64 x8 then j5 s6 else j6 s6))))) (fun (j2 : Int → Mem → PR) => if w32 (x9 - 1) ≤ w32 x4 then j2 (-1) s4 else bnd (fX7_boardingAt fu c1 x4 s4) (fun x17 s19 => j2 x17 s19)))) (fun (j1 : Int → Mem → PR) => jn (fun s21 => j1 (-1) s21) (fun (j7 : Mem → PR) => if w32 x7 ≠ 0 then j7 s3 else bnd (fX7_at fu c1 x4 s3) (fun x18 s22 => if w32 x18 ≠ w32 (s22 328 37) then rdI s22 347 10 x6 (fun x19 => j1 x19 s22) else j7 s22))))))
def fX7_laysAboard_L2 (fu : Nat) (k174 : Mem → PR) : Nat → Int → Mem → PR
  | 0, _, _ => none
  | n + 1, x1, s1 => if w32 (s1 328 9) ≤ w32 x1 then k174 s1 else rdI s1 330 12 x1 (fun x2 => lt (x2 - 1) (fun x3 => fX7_laysAboard_L19 fu x1 (fun s27 => fX7_laysAboard_L2 fu k174 n (x1 + 1) s27) fu x3 s1))
def fX7_laysAboard (fu : Nat) (σ : Mem) : PR := fX7_laysAboard_L2 fu (fun s30 => some (0, s30)) fu 0 σ
def fX7_placeOf_L2 (fu : Nat) (c1 : Int) (c2 : Int) (k34 : Mem → PR) (k26 : Int → Mem → PR) : Nat → Int → Mem → PR
  | 0, _, _ => none
  | n + 1, x1, s1 => rdI s1 330 12 c1 (fun x3 => if w32 x3 ≤ w32 x1 then k34 s1 else bnd (fX7_at fu c1 x1 s1) (fun x4 s2 => rdI s2 331 96 x4 (fun x5 => if w32 x5 ≠ w32 c2 then fX7_placeOf_L2 fu c1 c2 k34 k26 n (x1 + 1) s2 else k26 x1 s2)))
def fX7_placeOf (fu : Nat) (a0 : Int) (a1 : Int) (σ : Mem) : PR := fX7_placeOf_L2 fu a0 a1 (fun s6 => some (-1, s6)) (fun x6 s7 => some (x6, s7)) fu 0 σ
def fX7_boardable (fu : Nat) (a0 : Int) (a1 : Int) (σ : Mem) : PR := bnd (fX7_placeOf fu a0 a1 σ) (fun x1 s1 => rdI s1 337 12 a0 (fun x2 => jn (fun x3 s2 => some (x3, s2)) (fun (j1 : Int → Mem → PR) => jn (fun s3 => j1 (-1) s3) (fun (j2 : Mem → PR) => if w32 x2 ≠ 0 then j2 s1 else if w32 x1 = w32 (-1) then j2 s1 else rdI s1 330 12 a0 (fun x4 => if w32 x1 = w32 (x4 - 1) then j2 s1 else bnd (fX7_at fu a0 x1 s1) (fun x5 s4 => if w32 x5 ≠ w32 (s4 328 37) then bnd (fX7_boardingAt fu a0 x1 s4) (fun x6 s5 => j1 x6 s5) else j2 s4))))))
def fX7_nextLine_L4 (fu : Nat) (c1 : Int) (k64 : Int → Mem → PR) : Nat → Int → Int → Mem → PR
  | 0, _, _, _ => none
  | n + 1, x1, x2, s1 => if w32 (s1 328 9) ≤ w32 x2 then k64 x1 s1 else bnd (fX7_boardable fu x2 c1 s1) (fun x4 s2 => jn (fun x5 s3 => fX7_nextLine_L4 fu c1 k64 n x5 (x2 + 1) s3) (fun (j1 : Int → Mem → PR) => if w64 x4 < w64 0 then j1 x1 s2 else rdI s2 353 12 x2 (fun x6 => if w32 x6 ≠ 0 then j1 x1 s2 else jn (fun s4 => j1 x2 s4) (fun (j2 : Mem → PR) => if w32 x1 = w32 (-1) then j2 s2 else bnd (fX7_boardable fu x1 c1 s2) (fun x7 s5 => if w64 x4 < w64 x7 then j2 s5 else j1 x1 s5)))))
def fX7_nextLine (fu : Nat) (a0 : Int) (σ : Mem) : PR := fX7_nextLine_L4 fu a0 (fun x8 s10 => some (x8, s10)) fu (-1) 0 σ
def fX7_laysSet_L23 (fu : Nat) (c1 : Int) (c2 : Int) (k44 : Mem → PR) : Nat → Int → Mem → PR
  | 0, _, _ => none
  | n + 1, x2, s2 => if w32 12 ≤ w32 x2 then k44 s2 else wrI s2 353 12 x2 (n1 0) (fun s3 => fX7_laysSet_L23 fu c1 c2 k44 n (x2 + 1) s3)
def fX7_laysSet_L51 (fu : Nat) (c3 : Int) (k155 : Int → Int → Mem → PR) : Nat → Int → Int → Int → Mem → PR
  | 0, _, _, _, _ => none
  | n + 1, x4, x5, x6, s8 => if w32 x6 = w32 (-1) then k155 x4 x5 s8 else jn (fun s9 => rdI s9 329 12 x6 (fun x9 => bnd (fX7_boardable fu x6 c3 s9) (fun x10 s10 => lt (x4 + ((w32 x9) * x10)) (fun x11 => rdI s10 329 12 x6 (fun x12 => lt (x5 + x12) (fun x13 => wrI s10 353 12 x6 (n1 1) (fun s11 => rdI s11 352 10 c3 (fun x14 => wrI s11 351 120 ((12 * c3) + x14) x6 (fun s12 => rdI s12 352 10 c3 (fun x15 => wrI s12 352 10 c3 (x15 + 1) (fun s13 => bnd (fX7_nextLine fu c3 s13) (fun x16 s14 => fX7_laysSet_L51 fu c3 k155 n x11 x13 x16 s14)))))))))))) (fun (j1 : Mem → PR) => if w32 x5 = 0 then j1 s8 else bnd (fX7_boardable fu x6 c3 s8) (fun x17 s15 => dv64 (w32 x5) (if w64 (div64 x4 (w32 x5)) ≤ w64 x17 then k155 x4 x5 s15 else j1 s15)))
def fX7_laysSet (fu : Nat) (a0 : Int) (σ : Mem) : PR := lt (60 * (w32 (σ 328 10))) (fun x1 => wrI σ 352 10 a0 0 (fun s1 => fX7_laysSet_L23 fu a0 x1 (fun s6 => bnd (fX7_nextLine fu a0 s6) (fun x3 s7 => fX7_laysSet_L51 fu a0 (fun x18 x19 s19 => wrI s19 350 10 a0 x19 (fun s20 => jn (fun x20 s21 => wrI s21 346 10 a0 x20 (fun s22 => some (0, s22))) (fun (j2 : Int → Mem → PR) => if w32 x19 ≠ 0 then dv64 (w32 x19) (j2 (div64 x18 (w32 x19)) s20) else j2 (-1) s20))) fu x1 0 x3 s7)) fu 0 s1))
def fX7_isRoundDone_L2 (fu : Nat) (k26 : Mem → PR) : Nat → Int → Mem → PR
  | 0, _, _ => none
  | n + 1, x1, s1 => if w32 10 ≤ w32 x1 then k26 s1 else rdI s1 346 10 x1 (fun x2 => wrI s1 347 10 x1 x2 (fun s2 => fX7_isRoundDone_L2 fu k26 n (x1 + 1) s2))
def fX7_isRoundDone_L34 (fu : Nat) (k108 : Int → Mem → PR) : Nat → Int → Int → Mem → PR
  | 0, _, _, _ => none
  | n + 1, x3, x4, s7 => if w32 10 ≤ w32 x4 then k108 x3 s7 else wrI s7 352 10 x4 0 (fun s8 => wrI s8 350 10 x4 0 (fun s9 => jn (fun s10 => jn (fun x6 s11 => fX7_isRoundDone_L34 fu k108 n x6 (x4 + 1) s11) (fun (j2 : Int → Mem → PR) => jn (fun s12 => j2 0 s12) (fun (j3 : Mem → PR) => if w32 x3 = 0 then j3 s10 else rdI s10 346 10 x4 (fun x7 => rdI s10 347 10 x4 (fun x8 => if w64 x7 ≠ w64 x8 then j3 s10 else j2 1 s10))))) (fun (j1 : Mem → PR) => if w32 x4 = w32 (s9 328 11) then j1 s9 else rdI s9 339 10 x4 (fun x9 => if w32 x9 ≠ 0 then j1 s9 else bnd (fX7_laysSet fu x4 s9) (fun _ s15 => j1 s15)))))
def fX7_isRoundDone (fu : Nat) (σ : Mem) : PR := fX7_isRoundDone_L2 fu (fun s5 => bnd (fX7_laysAboard fu s5) (fun _ s6 => fX7_isRoundDone_L34 fu (fun x10 s19 => stf s19 328 36 ((s19 328 36) + 1) (fun s20 => rtz x10 s20)) fu 1 0 s6)) fu 0 σ
def fX7_laysCosts_L2 (fu : Nat) (k44 : Mem → PR) : Nat → Int → Mem → PR
  | 0, _, _ => none
  | n + 1, x1, s1 => if w32 10 ≤ w32 x1 then k44 s1 else jn (fun x2 s2 => wrI s2 346 10 x1 x2 (fun s3 => fX7_laysCosts_L2 fu k44 n (x1 + 1) s3)) (fun (j1 : Int → Mem → PR) => jn (fun s4 => j1 (-1) s4) (fun (j2 : Mem → PR) => if w32 x1 ≠ w32 (s1 328 11) then j2 s1 else rdI s1 339 10 x1 (fun x3 => if w32 x3 ≠ 0 then j2 s1 else j1 0 s1)))
def fX7_laysCosts_L51 (fu : Nat) (k63 : Mem → PR) : Nat → Int → Mem → PR
  | 0, _, _ => none
  | n + 1, x4, s11 => if w32 x4 ≠ 0 then k63 s11 else bnd (fX7_isRoundDone fu s11) (fun x5 s12 => fX7_laysCosts_L51 fu k63 n x5 s12)
def fX7_laysCosts (fu : Nat) (σ : Mem) : PR := fX7_laysCosts_L2 fu (fun s9 => stf s9 328 36 0 (fun s10 => fX7_laysCosts_L51 fu (fun s15 => some (0, s15)) fu 0 s10)) fu 0 σ
def fX7_costed_L4 (fu : Nat) (k35 : Int → Mem → PR) : Nat → Int → Int → Mem → PR
  | 0, _, _, _ => none
  | n + 1, x1, x2, s1 => if w32 10 ≤ w32 x2 then k35 x1 s1 else rdI s1 346 10 x2 (fun x4 => jn (fun x5 s2 => lt (x1 + x5) (fun x6 => fX7_costed_L4 fu k35 n x6 (x2 + 1) s2)) (fun (j1 : Int → Mem → PR) => if w64 x4 < w64 0 then j1 0 s1 else j1 1 s1))
def fX7_costed (fu : Nat) (σ : Mem) : PR := fX7_costed_L4 fu (fun x7 s6 => some (x7, s6)) fu 0 0 σ
def fX7_cost (fu : Nat) (a0 : Int) (σ : Mem) : PR := stf σ 328 20 0 (fun s1 => bnd (fX7_isStop fu a0 s1) (fun x1 s2 => if w32 x1 ≠ 0 then bnd (fX7_laysCosts fu s2) (fun _ s3 => rdI s3 346 10 a0 (fun x2 => if w64 0 ≤ w64 x2 then stf s3 328 19 0 (fun s4 => rdI s4 350 10 a0 (fun x3 => bnd (fX7_tell fu (w32 x3) s4) (fun _ s5 => rdI s5 352 10 a0 (fun x4 => bnd (fX7_tell fu (w32 x4) s5) (fun _ s6 => rdI s6 346 10 a0 (fun x5 => some (x5, s6))))))) else some (-2, s3))) else some (-1, s2)))
def fX7_rounds (fu : Nat) (σ : Mem) : PR := stf σ 328 20 0 (fun s1 => bnd (fX7_laysCosts fu s1) (fun _ s2 => stf s2 328 19 0 (fun s3 => bnd (fX7_costed fu s3) (fun x1 s4 => bnd (fX7_tell fu (w32 x1) s4) (fun _ s5 => some (s5 328 36, s5))))))
def fX7_chosen_L27 (fu : Nat) (c1 : Int) (k75 : Int → Mem → PR) : Nat → Int → Int → Mem → PR
  | 0, _, _, _ => none
  | n + 1, x2, x3, s5 => rdI s5 352 10 c1 (fun x5 => if w32 x5 ≤ w32 x3 then k75 x2 s5 else rdI s5 351 120 ((12 * c1) + x3) (fun x6 => lt (or32 x2 (shl32 1 x6)) (fun x7 => rdI s5 351 120 ((12 * c1) + x3) (fun x8 => bnd (fX7_tell fu (w32 x8) s5) (fun _ s6 => fX7_chosen_L27 fu c1 k75 n x7 (x3 + 1) s6)))))
def fX7_chosen (fu : Nat) (a0 : Int) (σ : Mem) : PR := stf σ 328 20 0 (fun s1 => bnd (fX7_isStop fu a0 s1) (fun x1 s2 => if w32 x1 ≠ 0 then bnd (fX7_laysCosts fu s2) (fun _ s3 => stf s3 328 19 0 (fun s4 => fX7_chosen_L27 fu a0 (fun x9 s9 => some (x9, s9)) fu 0 0 s4)) else some (-1, s2)))
def fX7_isInSet_L2 (fu : Nat) (c1 : Int) (c2 : Int) (k35 : Mem → PR) (k27 : Mem → PR) : Nat → Int → Mem → PR
  | 0, _, _ => none
  | n + 1, x1, s1 => rdI s1 352 10 c2 (fun x2 => if w32 x2 ≤ w32 x1 then k35 s1 else rdI s1 351 120 ((12 * c2) + x1) (fun x3 => if w32 x3 ≠ w32 c1 then fX7_isInSet_L2 fu c1 c2 k35 k27 n (x1 + 1) s1 else k27 s1))
def fX7_isInSet (fu : Nat) (a0 : Int) (a1 : Int) (σ : Mem) : PR := fX7_isInSet_L2 fu a0 a1 (fun s5 => rtz 0 s5) (fun s6 => rtz 1 s6) fu 0 σ
def fX7_boarding (fu : Nat) (a0 : Int) (a1 : Int) (σ : Mem) : PR := stf σ 328 20 0 (fun s1 => bnd (fX7_isStep fu a0 a1 s1) (fun x1 s2 => if w32 x1 ≠ 0 then bnd (fX7_laysCosts fu s2) (fun _ s3 => bnd (fX7_boardingAt fu a0 a1 s3) (fun x2 s4 => if w64 0 ≤ w64 x2 then stf s4 328 19 0 (fun s5 => bnd (fX7_at fu a0 a1 s5) (fun x3 s6 => rdI s6 331 96 x3 (fun x4 => bnd (fX7_isInSet fu a0 x4 s6) (fun x5 s7 => jn (fun x6 s8 => bnd (fX7_tell fu x6 s8) (fun _ s9 => bnd (fX7_boardingAt fu a0 a1 s9) (fun x7 s10 => some (x7, s10)))) (fun (j1 : Int → Mem → PR) => if w32 x5 = 0 then j1 0 s7 else j1 1 s7))))) else some (-2, s4))) else some (-1, s2)))
def fX7_aboard (fu : Nat) (a0 : Int) (a1 : Int) (σ : Mem) : PR := stf σ 328 20 0 (fun s1 => bnd (fX7_isHalt fu a0 a1 s1) (fun x1 s2 => if w32 x1 ≠ 0 then bnd (fX7_laysCosts fu s2) (fun _ s3 => bnd (fX7_at fu a0 a1 s3) (fun x2 s4 => rdI s4 348 96 x2 (fun x3 => if w64 0 ≤ w64 x3 then stf s4 328 19 0 (fun s5 => bnd (fX7_at fu a0 a1 s5) (fun x4 s6 => rdI s6 349 96 x4 (fun x5 => jn (fun x6 s7 => bnd (fX7_tell fu x6 s7) (fun _ s8 => bnd (fX7_at fu a0 a1 s8) (fun x7 s9 => rdI s9 348 96 x7 (fun x8 => some (x8, s9))))) (fun (j1 : Int → Mem → PR) => if w32 x5 = 0 then j1 0 s6 else j1 1 s6)))) else some (-2, s4)))) else some (-1, s2)))
def fX7_worst_L13 (fu : Nat) (k67 : Int → Mem → PR) : Nat → Int → Int → Mem → PR
  | 0, _, _, _ => none
  | n + 1, x1, x2, s3 => if w32 10 ≤ w32 x2 then k67 x1 s3 else jn (fun x4 s4 => fX7_worst_L13 fu k67 n x4 (x2 + 1) s4) (fun (j1 : Int → Mem → PR) => if w32 x2 = w32 (s3 328 11) then j1 x1 s3 else rdI s3 346 10 x2 (fun x5 => if w64 x5 < w64 0 then j1 x1 s3 else jn (fun s5 => j1 x2 s5) (fun (j2 : Mem → PR) => if w32 x1 = w32 (-1) then j2 s3 else rdI s3 346 10 x2 (fun x6 => rdI s3 346 10 x1 (fun x7 => if w64 x6 ≤ w64 x7 then j1 x1 s3 else j2 s3)))))
def fX7_worst (fu : Nat) (σ : Mem) : PR := stf σ 328 20 0 (fun s1 => bnd (fX7_laysCosts fu s1) (fun _ s2 => fX7_worst_L13 fu (fun x8 s10 => if w32 x8 ≠ w32 (-1) then stf s10 328 19 0 (fun s11 => rdI s11 346 10 x8 (fun x9 => bnd (fX7_tell fu x9 s11) (fun _ s12 => some (x8, s12)))) else some (-2, s10)) fu (-1) 0 s2))
def fX7_wait (fu : Nat) (a0 : Int) (σ : Mem) : PR := stf σ 328 20 0 (fun s1 => bnd (fX7_isStop fu a0 s1) (fun x1 s2 => if w32 x1 ≠ 0 then bnd (fX7_laysCosts fu s2) (fun _ s3 => jn (fun x2 s4 => some (x2, s4)) (fun (j1 : Int → Mem → PR) => jn (fun s5 => j1 (-2) s5) (fun (j2 : Mem → PR) => if w32 a0 = w32 (s3 328 11) then j2 s3 else rdI s3 346 10 a0 (fun x3 => if w64 0 ≤ w64 x3 then rdI s3 350 10 a0 (fun x4 => dv32 x4 (j1 (div32 (60 * (s3 328 10)) x4) s3)) else j2 s3)))) else some (-1, s2)))
def fX7_leaves_L4 (fu : Nat) (c1 : Int) (k23 : Int → Mem → PR) : Nat → Int → Mem → PR
  | 0, _, _ => none
  | n + 1, x2, s1 => bnd (fX7_at fu c1 x2 s1) (fun x4 s2 => rdI s2 349 96 x4 (fun x5 => if w32 x5 ≠ 0 then k23 x2 s2 else fX7_leaves_L4 fu c1 k23 n (x2 + 1) s2))
def fX7_leaves (fu : Nat) (a0 : Int) (a1 : Int) (σ : Mem) : PR := lt (a1 + 1) (fun x1 => fX7_leaves_L4 fu a0 (fun x6 s5 => some (x6, s5)) fu x1 σ)
def fX7_laysOrder_L40 (fu : Nat) (c1 : Int) (k87 : Int → Mem → PR) : Nat → Int → Mem → PR
  | 0, _, _ => none
  | n + 1, x4, s4 => if w32 x4 ≤ 0 then k87 x4 s4 else rdI s4 354 10 (x4 - 1) (fun x6 => rdI s4 346 10 x6 (fun x7 => rdI s4 346 10 c1 (fun x8 => if w64 x8 ≤ w64 x7 then k87 x4 s4 else rdI s4 354 10 (x4 - 1) (fun x9 => wrI s4 354 10 x4 x9 (fun s5 => fX7_laysOrder_L40 fu c1 k87 n (x4 + (-1)) s5)))))
def fX7_laysOrder_L7 (fu : Nat) (k110 : Mem → PR) : Nat → Int → Mem → PR
  | 0, _, _ => none
  | n + 1, x1, s2 => if w32 10 ≤ w32 x1 then k110 s2 else jn (fun s3 => fX7_laysOrder_L7 fu k110 n (x1 + 1) s3) (fun (j1 : Mem → PR) => if w32 x1 = w32 (s2 328 11) then j1 s2 else rdI s2 346 10 x1 (fun x2 => if w64 0 ≤ w64 x2 then lt (s2 328 40) (fun x3 => fX7_laysOrder_L40 fu x1 (fun x10 s8 => wrI s8 354 10 x10 x1 (fun s9 => stf s9 328 40 ((s9 328 40) + 1) (fun s10 => j1 s10))) fu x3 s2) else j1 s2))
def fX7_laysOrder (fu : Nat) (σ : Mem) : PR := stf σ 328 40 0 (fun s1 => fX7_laysOrder_L7 fu (fun s14 => some (0, s14)) fu 0 s1)
def fX7_boards_L70 (fu : Nat) (c2 : Int) (c3 : Int) (c4 : Int) (k147 : Int → Mem → PR) : Nat → Int → Int → Mem → PR
  | 0, _, _, _ => none
  | n + 1, x6, x7, s7 => rdI s7 352 10 c4 (fun x9 => if w32 x9 ≤ w32 x7 then k147 x6 s7 else rdI s7 351 120 ((12 * c4) + x7) (fun x10 => rdI s7 329 12 x10 (fun x11 => bnd (fX7_placeOf fu x10 c4 s7) (fun x12 s8 => bnd (fX7_leaves fu x10 x12 s8) (fun x13 s9 => bnd (fX7_at fu x10 x13 s9) (fun x14 s10 => rdI s10 331 96 x14 (fun x15 => rdI s10 355 10 x15 (fun x16 => lt (x6 + ((w32 x11) * (1000 + x16))) (fun x17 => fX7_boards_L70 fu c2 c3 c4 k147 n x17 (x7 + 1) s10)))))))))
def fX7_boards_L53 (fu : Nat) (c1 : Int) (k169 : Mem → PR) : Nat → Int → Mem → PR
  | 0, _, _ => none
  | n + 1, x4, s6 => if w32 x4 < 0 then k169 s6 else rdI s6 354 10 x4 (fun x5 => fX7_boards_L70 fu c1 x4 x5 (fun x18 s13 => rdI s13 350 10 x5 (fun x19 => dv64 (w32 x19) (wrI s13 355 10 x5 (div64 x18 (w32 x19)) (fun s14 => fX7_boards_L53 fu c1 k169 n (x4 + (-1)) s14)))) fu 0 0 s6)
def fX7_boards (fu : Nat) (a0 : Int) (σ : Mem) : PR := stf σ 328 20 0 (fun s1 => bnd (fX7_isStop fu a0 s1) (fun x1 s2 => if w32 x1 ≠ 0 then bnd (fX7_laysCosts fu s2) (fun _ s3 => rdI s3 346 10 a0 (fun x2 => if w64 0 ≤ w64 x2 then bnd (fX7_laysOrder fu s3) (fun _ s4 => wrI s4 355 10 (s4 328 11) 0 (fun s5 => lt ((s5 328 40) - 1) (fun x3 => fX7_boards_L53 fu a0 (fun s17 => rdI s17 355 10 a0 (fun x20 => some (x20, s17))) fu x3 s5))) else some (-2, s3))) else some (-1, s2)))
def fX7_slack (fu : Nat) (a0 : Int) (a1 : Int) (σ : Mem) : PR := stf σ 328 20 0 (fun s1 => bnd (fX7_isStep fu a0 a1 s1) (fun x1 s2 => if w32 x1 ≠ 0 then bnd (fX7_laysCosts fu s2) (fun _ s3 => bnd (fX7_at fu a0 a1 s3) (fun x2 s4 => rdI s4 331 96 x2 (fun x3 => bnd (fX7_boardingAt fu a0 a1 s4) (fun x4 s5 => jn (fun s6 => some (-2, s6)) (fun (j1 : Mem → PR) => if w64 x4 < w64 0 then j1 s5 else rdI s5 346 10 x3 (fun x5 => if w64 x5 < w64 0 then j1 s5 else if w32 x3 = w32 (s5 328 11) then j1 s5 else rdI s5 337 12 a0 (fun x6 => if w32 x6 = 0 then bnd (fX7_isInSet fu a0 x3 s5) (fun x7 s7 => jn (fun x8 s8 => some (x8, s8)) (fun (j2 : Int → Mem → PR) => if w32 x7 = 0 then bnd (fX7_boardingAt fu a0 a1 s7) (fun x9 s9 => rdI s9 346 10 x3 (fun x10 => j2 ((x9 + 1) - x10) s9)) else j2 0 s7)) else j1 s5))))))) else some (-1, s2)))
def fX7_reach_L22 (fu : Nat) (c1 : Int) (k73 : Int → Int → Mem → PR) : Nat → Int → Int → Int → Mem → PR
  | 0, _, _, _, _ => none
  | n + 1, x1, x2, x3, s3 => if w32 10 ≤ w32 x3 then k73 x1 x2 s3 else rdI s3 346 10 x3 (fun x6 => jn (fun x7 x8 s4 => fX7_reach_L22 fu c1 k73 n x7 x8 (x3 + 1) s4) (fun (j1 : Int → Int → Mem → PR) => if w64 x6 < w64 0 then j1 x1 x2 s3 else rdI s3 346 10 x3 (fun x9 => if w64 x9 ≤ w64 (w32 c1) then lt (or32 x1 (shl32 1 x3)) (fun x10 => j1 x10 (x2 + 1) s3) else j1 x1 x2 s3)))
def fX7_reach (fu : Nat) (a0 : Int) (σ : Mem) : PR := stf σ 328 20 0 (fun s1 => if 0 ≤ w32 a0 then bnd (fX7_laysCosts fu s1) (fun _ s2 => fX7_reach_L22 fu a0 (fun x11 x12 s8 => stf s8 328 19 0 (fun s9 => bnd (fX7_tell fu (w32 x11) s9) (fun _ s10 => some (x12, s10)))) fu 0 0 0 s2) else some (-1, s1))
def fX7_between (fu : Nat) (a0 : Int) (a1 : Int) (σ : Mem) : PR := stf σ 328 20 0 (fun s1 => bnd (fX7_isStop fu a0 s1) (fun x1 s2 => jn (fun s3 => some (-1, s3)) (fun (j1 : Mem → PR) => if w32 x1 = 0 then j1 s2 else bnd (fX7_isStop fu a1 s2) (fun x2 s4 => if w32 x2 ≠ 0 then lt (s4 328 11) (fun x3 => stf s4 328 11 a1 (fun s5 => bnd (fX7_laysCosts fu s5) (fun _ s6 => stf s6 328 11 x3 (fun s7 => rdI s7 346 10 a0 (fun x4 => if w64 0 ≤ w64 x4 then stf s7 328 19 0 (fun s8 => bnd (fX7_tell fu (w32 (s8 328 36)) s8) (fun _ s9 => rdI s9 346 10 a0 (fun x5 => some (x5, s9)))) else some (-2, s7)))))) else j1 s4))))
def fX7_passesOn_L21 (fu : Nat) (c1 : Int) (c2 : Int) (k71 : Int → Mem → PR) : Nat → Int → Int → Mem → PR
  | 0, _, _, _ => none
  | n + 1, x4, x5, s1 => rdI s1 352 10 c1 (fun x7 => if w32 x7 ≤ w32 x5 then k71 x4 s1 else rdI s1 351 120 ((12 * c1) + x5) (fun x8 => rdI s1 329 12 x8 (fun x9 => rdI s1 350 10 c1 (fun x10 => dv64 (w32 x10) (lt (x4 - (div64 (c2 * (w32 x9)) (w32 x10))) (fun x11 => fX7_passesOn_L21 fu c1 c2 k71 n x11 (x5 + 1) s1))))))
def fX7_passesOn_L210 (fu : Nat) (c6 : Int) (c7 : Int) (c8 : Int) (c9 : Int) (c10 : Int) (c11 : Int) (c12 : Int) (k240 : Mem → PR) : Nat → Int → Mem → PR
  | 0, _, _ => none
  | n + 1, x29, s15 => if w32 c11 ≤ w32 x29 then k240 s15 else bnd (fX7_at fu c10 x29 s15) (fun x30 s16 => rdI s16 356 96 x30 (fun x31 => wrI s16 356 96 x30 (x31 + c12) (fun s17 => fX7_passesOn_L210 fu c6 c7 c8 c9 c10 c11 c12 k240 n (x29 + 1) s17)))
def fX7_passesOn_L74 (fu : Nat) (c3 : Int) (c4 : Int) (c5 : Int) (k246 : Mem → PR) : Nat → Int → Mem → PR
  | 0, _, _ => none
  | n + 1, x13, s5 => rdI s5 352 10 c3 (fun x14 => if w32 x14 ≤ w32 x13 then k246 s5 else rdI s5 351 120 ((12 * c3) + x13) (fun x15 => bnd (fX7_placeOf fu x15 c3 s5) (fun x16 s6 => bnd (fX7_leaves fu x15 x16 s6) (fun x17 s7 => rdI s7 329 12 x15 (fun x18 => rdI s7 350 10 c3 (fun x19 => dv64 (w32 x19) (jn (fun x20 s8 => lt ((div64 (c4 * (w32 x18)) (w32 x19)) + x20) (fun x21 => bnd (fX7_at fu x15 x16 s8) (fun x22 s9 => rdI s9 357 96 x22 (fun x23 => wrI s9 357 96 x22 (x23 + x21) (fun s10 => bnd (fX7_at fu x15 x17 s10) (fun x24 s11 => rdI s11 358 96 x24 (fun x25 => wrI s11 358 96 x24 (x25 + x21) (fun s12 => bnd (fX7_at fu x15 x17 s12) (fun x26 s13 => rdI s13 331 96 x26 (fun x27 => rdI s13 359 10 x27 (fun x28 => wrI s13 359 10 x27 (x28 + x21) (fun s14 => fX7_passesOn_L210 fu c3 c4 c5 x13 x15 x17 x21 (fun s20 => fX7_passesOn_L74 fu c3 c4 c5 k246 n (x13 + 1) s20) fu x16 s14)))))))))))) (fun (j1 : Int → Mem → PR) => if w32 x13 ≠ 0 then j1 0 s7 else j1 c5 s7))))))))
def fX7_passesOn (fu : Nat) (a0 : Int) (σ : Mem) : PR := rdI σ 338 10 a0 (fun x1 => rdI σ 359 10 a0 (fun x2 => lt ((w32 x1) + x2) (fun x3 => fX7_passesOn_L21 fu a0 x3 (fun x12 s4 => fX7_passesOn_L74 fu a0 x3 x12 (fun s24 => some (0, s24)) fu 0 s4) fu x3 0 σ)))
def fX7_laysLoads_L10 (fu : Nat) (k43 : Mem → PR) : Nat → Int → Mem → PR
  | 0, _, _ => none
  | n + 1, x1, s3 => if w32 96 ≤ w32 x1 then k43 s3 else wrI s3 356 96 x1 0 (fun s4 => wrI s4 357 96 x1 0 (fun s5 => wrI s5 358 96 x1 0 (fun s6 => fX7_laysLoads_L10 fu k43 n (x1 + 1) s6)))
def fX7_laysLoads_L45 (fu : Nat) (k64 : Mem → PR) : Nat → Int → Mem → PR
  | 0, _, _ => none
  | n + 1, x2, s10 => if w32 10 ≤ w32 x2 then k64 s10 else wrI s10 359 10 x2 0 (fun s11 => fX7_laysLoads_L45 fu k64 n (x2 + 1) s11)
def fX7_laysLoads_L66 (fu : Nat) (k90 : Mem → PR) : Nat → Int → Mem → PR
  | 0, _, _ => none
  | n + 1, x3, s15 => if w32 (s15 328 40) ≤ w32 x3 then k90 s15 else rdI s15 354 10 x3 (fun x4 => bnd (fX7_passesOn fu x4 s15) (fun _ s16 => fX7_laysLoads_L66 fu k90 n (x3 + 1) s16))
def fX7_laysLoads (fu : Nat) (σ : Mem) : PR := bnd (fX7_laysCosts fu σ) (fun _ s1 => bnd (fX7_laysOrder fu s1) (fun _ s2 => fX7_laysLoads_L10 fu (fun s9 => fX7_laysLoads_L45 fu (fun s14 => fX7_laysLoads_L66 fu (fun s19 => some (0, s19)) fu 0 s14) fu 0 s9) fu 0 s2))
def fX7_totalNow_L4 (fu : Nat) (k48 : Int → Mem → PR) : Nat → Int → Int → Mem → PR
  | 0, _, _, _ => none
  | n + 1, x1, x2, s1 => if w32 10 ≤ w32 x2 then k48 x1 s1 else rdI s1 346 10 x2 (fun x4 => jn (fun x5 s2 => lt (x1 + x5) (fun x6 => fX7_totalNow_L4 fu k48 n x6 (x2 + 1) s2)) (fun (j1 : Int → Mem → PR) => if w64 x4 < w64 0 then j1 0 s1 else rdI s1 338 10 x2 (fun x7 => rdI s1 346 10 x2 (fun x8 => j1 ((w32 x7) * x8) s1))))
def fX7_totalNow (fu : Nat) (σ : Mem) : PR := fX7_totalNow_L4 fu (fun x9 s6 => some (x9, s6)) fu 0 0 σ
def fX7_strandedNow_L4 (fu : Nat) (k49 : Int → Mem → PR) : Nat → Int → Int → Mem → PR
  | 0, _, _, _ => none
  | n + 1, x1, x2, s1 => if w32 10 ≤ w32 x2 then k49 x1 s1 else jn (fun x4 s2 => lt (x1 + x4) (fun x5 => fX7_strandedNow_L4 fu k49 n x5 (x2 + 1) s2)) (fun (j1 : Int → Mem → PR) => jn (fun s3 => j1 0 s3) (fun (j2 : Mem → PR) => if w32 x2 = w32 (s1 328 11) then j2 s1 else rdI s1 346 10 x2 (fun x6 => if w64 0 ≤ w64 x6 then j2 s1 else rdI s1 338 10 x2 (fun x7 => j1 (w32 x7) s1))))
def fX7_strandedNow (fu : Nat) (σ : Mem) : PR := fX7_strandedNow_L4 fu (fun x8 s8 => some (x8, s8)) fu 0 0 σ
def fX7_load (fu : Nat) (a0 : Int) (a1 : Int) (σ : Mem) : PR := stf σ 328 20 0 (fun s1 => bnd (fX7_isStep fu a0 a1 s1) (fun x1 s2 => if w32 x1 ≠ 0 then bnd (fX7_laysLoads fu s2) (fun _ s3 => bnd (fX7_at fu a0 a1 s3) (fun x2 s4 => rdI s4 356 96 x2 (fun x3 => some (x3, s4)))) else some (-1, s2)))
def fX7_passes (fu : Nat) (a0 : Int) (σ : Mem) : PR := stf σ 328 20 0 (fun s1 => bnd (fX7_isStop fu a0 s1) (fun x1 s2 => if w32 x1 ≠ 0 then bnd (fX7_laysLoads fu s2) (fun _ s3 => stf s3 328 19 0 (fun s4 => rdI s4 359 10 a0 (fun x2 => bnd (fX7_tell fu x2 s4) (fun _ s5 => rdI s5 338 10 a0 (fun x3 => rdI s5 359 10 a0 (fun x4 => some ((w32 x3) + x4, s5))))))) else some (-1, s2)))
def fX7_ridden_L27 (fu : Nat) (c1 : Int) (k95 : Int → Int → Mem → PR) : Nat → Int → Int → Int → Mem → PR
  | 0, _, _, _, _ => none
  | n + 1, x2, x3, x4, s4 => rdI s4 330 12 c1 (fun x7 => if w32 (x7 - 1) ≤ w32 x4 then k95 x2 x3 s4 else bnd (fX7_at fu c1 x4 s4) (fun x8 s5 => rdI s5 357 96 x8 (fun x9 => lt (x2 + x9) (fun x10 => bnd (fX7_at fu c1 x4 s5) (fun x11 s6 => rdI s6 356 96 x11 (fun x12 => bnd (fX7_at fu c1 x3 s6) (fun x13 s7 => rdI s7 356 96 x13 (fun x14 => jn (fun x15 s8 => fX7_ridden_L27 fu c1 k95 n x10 x15 (x4 + 1) s8) (fun (j1 : Int → Mem → PR) => if w64 x12 ≤ w64 x14 then j1 x3 s7 else j1 x4 s7)))))))))
def fX7_ridden (fu : Nat) (a0 : Int) (σ : Mem) : PR := stf σ 328 20 0 (fun s1 => bnd (fX7_isLine fu a0 s1) (fun x1 s2 => if w32 x1 ≠ 0 then bnd (fX7_laysLoads fu s2) (fun _ s3 => fX7_ridden_L27 fu a0 (fun x16 x17 s12 => stf s12 328 19 0 (fun s13 => bnd (fX7_at fu a0 x17 s13) (fun x18 s14 => rdI s14 356 96 x18 (fun x19 => bnd (fX7_tell fu x19 s14) (fun _ s15 => bnd (fX7_tell fu (w32 x17) s15) (fun _ s16 => some (x16, s16))))))) fu 0 0 0 s3) else some (-1, s2)))
def fX7_boardings (fu : Nat) (a0 : Int) (a1 : Int) (σ : Mem) : PR := stf σ 328 20 0 (fun s1 => bnd (fX7_isHalt fu a0 a1 s1) (fun x1 s2 => if w32 x1 ≠ 0 then bnd (fX7_laysLoads fu s2) (fun _ s3 => stf s3 328 19 0 (fun s4 => bnd (fX7_at fu a0 a1 s4) (fun x2 s5 => rdI s5 358 96 x2 (fun x3 => bnd (fX7_tell fu x3 s5) (fun _ s6 => bnd (fX7_at fu a0 a1 s6) (fun x4 s7 => rdI s7 357 96 x4 (fun x5 => some (x5, s7)))))))) else some (-1, s2)))
def fX7_total_L24 (fu : Nat) (c1 : Int) (k65 : Int → Mem → PR) : Nat → Int → Int → Mem → PR
  | 0, _, _, _ => none
  | n + 1, x4, x5, s4 => rdI s4 330 12 c1 (fun x7 => if w32 (x7 - 1) ≤ w32 x5 then k65 x4 s4 else bnd (fX7_at fu c1 x5 s4) (fun x8 s5 => rdI s5 356 96 x8 (fun x9 => bnd (fX7_time fu c1 x5 s5) (fun x10 s6 => lt (x4 + (x9 * x10)) (fun x11 => fX7_total_L24 fu c1 k65 n x11 (x5 + 1) s6)))))
def fX7_total_L13 (fu : Nat) (k71 : Int → Mem → PR) : Nat → Int → Int → Mem → PR
  | 0, _, _, _ => none
  | n + 1, x1, x2, s3 => if w32 (s3 328 9) ≤ w32 x2 then k71 x1 s3 else fX7_total_L24 fu x2 (fun x12 s9 => fX7_total_L13 fu k71 n x12 (x2 + 1) s9) fu x1 0 s3
def fX7_total (fu : Nat) (σ : Mem) : PR := stf σ 328 20 0 (fun s1 => bnd (fX7_laysLoads fu s1) (fun _ s2 => fX7_total_L13 fu (fun x13 s12 => stf s12 328 19 0 (fun s13 => bnd (fX7_strandedNow fu s13) (fun x14 s14 => bnd (fX7_tell fu x14 s14) (fun _ s15 => bnd (fX7_tell fu x13 s15) (fun _ s16 => bnd (fX7_totalNow fu s16) (fun x15 s17 => some (x15, s17))))))) fu 0 0 s2))
def fX7_fullest_L33 (fu : Nat) (c1 : Int) (k77 : Int → Mem → PR) : Nat → Int → Int → Mem → PR
  | 0, _, _, _ => none
  | n + 1, x4, x5, s4 => rdI s4 330 12 c1 (fun x7 => if w32 (x7 - 1) ≤ w32 x5 then k77 x4 s4 else bnd (fX7_at fu c1 x5 s4) (fun x8 s5 => rdI s5 356 96 x8 (fun x9 => rdI s5 356 96 x4 (fun x10 => jn (fun x11 s6 => fX7_fullest_L33 fu c1 k77 n x11 (x5 + 1) s6) (fun (j1 : Int → Mem → PR) => if w64 x9 ≤ w64 x10 then j1 x4 s5 else bnd (fX7_at fu c1 x5 s5) (fun x12 s7 => j1 x12 s7))))))
def fX7_fullest_L23 (fu : Nat) (k83 : Int → Mem → PR) : Nat → Int → Int → Mem → PR
  | 0, _, _, _ => none
  | n + 1, x1, x2, s3 => if w32 (s3 328 9) ≤ w32 x2 then k83 x1 s3 else fX7_fullest_L33 fu x2 (fun x13 s11 => fX7_fullest_L23 fu k83 n x13 (x2 + 1) s11) fu x1 0 s3
def fX7_fullest (fu : Nat) (σ : Mem) : PR := stf σ 328 20 0 (fun s1 => if w32 (s1 328 9) ≠ 0 then bnd (fX7_laysLoads fu s1) (fun _ s2 => fX7_fullest_L23 fu (fun x14 s14 => stf s14 328 19 0 (fun s15 => rdI s15 356 96 x14 (fun x15 => bnd (fX7_tell fu x15 s15) (fun _ s16 => dv32 8 (dv32 8 (some ((100 * (div32 x14 8)) + (rem32 x14 8), s16))))))) fu 0 0 s2) else some (-2, s1))
def fX7_changes_L13 (fu : Nat) (k46 : Int → Mem → PR) : Nat → Int → Int → Mem → PR
  | 0, _, _, _ => none
  | n + 1, x1, x2, s3 => if w32 10 ≤ w32 x2 then k46 x1 s3 else jn (fun x4 s4 => lt (x1 + x4) (fun x5 => fX7_changes_L13 fu k46 n x5 (x2 + 1) s4)) (fun (j1 : Int → Mem → PR) => if w32 x2 ≠ w32 (s3 328 11) then rdI s3 359 10 x2 (fun x6 => j1 x6 s3) else j1 0 s3)
def fX7_changes (fu : Nat) (σ : Mem) : PR := stf σ 328 20 0 (fun s1 => bnd (fX7_laysLoads fu s1) (fun _ s2 => fX7_changes_L13 fu (fun x7 s8 => some (x7, s8)) fu 0 0 s2))
def fX7_crowd (fu : Nat) (a0 : Int) (σ : Mem) : PR := stf σ 328 20 0 (fun s1 => bnd (fX7_in fu (w32 a0) 0 9999 s1) (fun x1 s2 => if w32 x1 ≠ 0 then lt (s2 328 12) (fun x2 => stf s2 328 12 a0 (fun s3 => some (x2, s3))) else some (-1, s2)))
def fX7_seats (fu : Nat) (a0 : Int) (a1 : Int) (σ : Mem) : PR := stf σ 328 20 0 (fun s1 => bnd (fX7_isLine fu a0 s1) (fun x1 s2 => jn (fun s3 => some (-1, s3)) (fun (j1 : Mem → PR) => if w32 x1 = 0 then j1 s2 else bnd (fX7_in fu (w32 a1) 1 999 s2) (fun x2 s4 => if w32 x2 ≠ 0 then rdI s4 335 12 a0 (fun x3 => wrI s4 335 12 a0 a1 (fun s5 => some (x3, s5))) else j1 s4))))
def fX7_settlesOnce_L31 (fu : Nat) (c1 : Int) (k140 : Mem → PR) : Nat → Int → Mem → PR
  | 0, _, _ => none
  | n + 1, x2, s5 => rdI s5 330 12 c1 (fun x3 => if w32 (x3 - 1) ≤ w32 x2 then k140 s5 else bnd (fX7_at fu c1 x2 s5) (fun x4 s6 => rdI s6 356 96 x4 (fun x5 => rdI s6 334 96 x4 (fun x6 => lt (x5 - x6) (fun x7 => stf s6 328 46 ((s6 328 46) + (abs64 x7)) (fun s7 => rdI s7 334 96 x4 (fun x8 => dv64 (w32 (s7 328 13)) (wrI s7 334 96 x4 (x8 + (div64 x7 (w32 (s7 328 13)))) (fun s8 => rdI s8 334 96 x4 (fun x9 => rdI s8 335 12 c1 (fun x10 => rdI s8 329 12 c1 (fun x11 => dv64 (w32 (x10 * x11)) (wrI s8 333 96 x4 (min64 100000 (div64 ((w32 (s8 328 12)) * x9) (w32 (x10 * x11)))) (fun s9 => fX7_settlesOnce_L31 fu c1 k140 n (x2 + 1) s9))))))))))))))
def fX7_settlesOnce_L21 (fu : Nat) (k146 : Mem → PR) : Nat → Int → Mem → PR
  | 0, _, _ => none
  | n + 1, x1, s4 => if w32 (s4 328 9) ≤ w32 x1 then k146 s4 else fX7_settlesOnce_L31 fu x1 (fun s12 => fX7_settlesOnce_L21 fu k146 n (x1 + 1) s12) fu 0 s4
def fX7_settlesOnce (fu : Nat) (σ : Mem) : PR := bnd (fX7_laysLoads fu σ) (fun _ s1 => stf s1 328 13 ((s1 328 13) + 1) (fun s2 => stf s2 328 46 0 (fun s3 => fX7_settlesOnce_L21 fu (fun s15 => some (0, s15)) fu 0 s3)))
def fX7_settles_L21 (fu : Nat) (c1 : Int) (k36 : Mem → PR) : Nat → Int → Mem → PR
  | 0, _, _ => none
  | n + 1, x2, s3 => if w32 c1 ≤ w32 x2 then k36 s3 else bnd (fX7_settlesOnce fu s3) (fun _ s4 => fX7_settles_L21 fu c1 k36 n (x2 + 1) s4)
def fX7_settles (fu : Nat) (a0 : Int) (σ : Mem) : PR := stf σ 328 20 0 (fun s1 => bnd (fX7_in fu (w32 a0) 1 50 s1) (fun x1 s2 => if w32 x1 ≠ 0 then fX7_settles_L21 fu a0 (fun s7 => bnd (fX7_laysCosts fu s7) (fun _ s8 => stf s8 328 19 0 (fun s9 => bnd (fX7_tell fu (w32 (s9 328 13)) s9) (fun _ s10 => bnd (fX7_totalNow fu s10) (fun x3 s11 => bnd (fX7_tell fu x3 s11) (fun _ s12 => some (s12 328 46, s12))))))) fu 0 s2 else some (-1, s2)))
def fX7_balances_L25 (fu : Nat) (c1 : Int) (c2 : Int) (k47 : Int → Mem → PR) : Nat → Int → Mem → PR
  | 0, _, _ => none
  | n + 1, x2, s4 => bnd (fX7_settlesOnce fu s4) (fun _ s5 => if w32 c2 ≤ w32 (x2 + 1) then k47 (x2 + 1) s5 else if w64 (w32 c1) < w64 (s5 328 46) then fX7_balances_L25 fu c1 c2 k47 n (x2 + 1) s5 else k47 (x2 + 1) s5)
def fX7_balances (fu : Nat) (a0 : Int) (a1 : Int) (σ : Mem) : PR := stf σ 328 20 0 (fun s1 => bnd (fX7_in fu (w32 a1) 1 200 s1) (fun x1 s2 => jn (fun s3 => some (-1, s3)) (fun (j1 : Mem → PR) => if w32 x1 = 0 then j1 s2 else if 0 ≤ w32 a0 then fX7_balances_L25 fu a0 a1 (fun x4 s8 => stf s8 328 19 0 (fun s9 => bnd (fX7_tell fu (s9 328 46) s9) (fun _ s10 => bnd (fX7_tell fu (w32 (s10 328 13)) s10) (fun _ s11 => some (x4, s11))))) fu 0 s2 else j1 s2)))
def fX7_averaged (fu : Nat) (a0 : Int) (a1 : Int) (σ : Mem) : PR := stf σ 328 20 0 (fun s1 => bnd (fX7_isStep fu a0 a1 s1) (fun x1 s2 => if w32 x1 ≠ 0 then stf s2 328 19 0 (fun s3 => bnd (fX7_at fu a0 a1 s3) (fun x2 s4 => rdI s4 333 96 x2 (fun x3 => bnd (fX7_tell fu x3 s4) (fun _ s5 => bnd (fX7_at fu a0 a1 s5) (fun x4 s6 => rdI s6 334 96 x4 (fun x5 => some (x5, s6))))))) else some (-1, s2)))
def fX7_clears_L17 (fu : Nat) (c1 : Int) (k43 : Mem → PR) : Nat → Int → Mem → PR
  | 0, _, _ => none
  | n + 1, x2, s3 => if w32 96 ≤ w32 x2 then k43 s3 else wrI s3 333 96 x2 0 (fun s4 => wrI s4 334 96 x2 0 (fun s5 => fX7_clears_L17 fu c1 k43 n (x2 + 1) s5))
def fX7_clears (fu : Nat) (σ : Mem) : PR := stf σ 328 20 0 (fun s1 => lt (s1 328 13) (fun x1 => stf s1 328 13 0 (fun s2 => fX7_clears_L17 fu x1 (fun s8 => some (x1, s8)) fu 0 s2)))
def fX7_before (fu : Nat) (σ : Mem) : PR := bnd (fX7_laysCosts fu σ) (fun _ s1 => bnd (fX7_totalNow fu s1) (fun x1 s2 => some (x1, s2)))
def fX7_tells (fu : Nat) (a0 : Int) (a1 : Int) (σ : Mem) : PR := stf σ 328 19 0 (fun s1 => bnd (fX7_tell fu (a0 - (s1 328 47)) s1) (fun _ s2 => bnd (fX7_tell fu a1 s2) (fun _ s3 => some (a0, s3))))
def fX7_without (fu : Nat) (a0 : Int) (σ : Mem) : PR := stf σ 328 20 0 (fun s1 => bnd (fX7_isLine fu a0 s1) (fun x1 s2 => if w32 x1 ≠ 0 then rdI s2 337 12 a0 (fun x2 => if w32 x2 = 0 then bnd (fX7_before fu s2) (fun x3 s3 => stf s3 328 47 x3 (fun s4 => wrI s4 337 12 a0 (n1 1) (fun s5 => bnd (fX7_before fu s5) (fun x4 s6 => wrI s6 337 12 a0 (n1 0) (fun s7 => bnd (fX7_strandedNow fu s7) (fun x5 s8 => bnd (fX7_tells fu x4 x5 s8) (fun x6 s9 => some (x6, s9)))))))) else some (-2, s2)) else some (-1, s2)))
def fX7_shut (fu : Nat) (a0 : Int) (σ : Mem) : PR := stf σ 328 20 0 (fun s1 => bnd (fX7_isStop fu a0 s1) (fun x1 s2 => if w32 x1 ≠ 0 then rdI s2 339 10 a0 (fun x2 => if w32 x2 = 0 then bnd (fX7_before fu s2) (fun x3 s3 => stf s3 328 47 x3 (fun s4 => wrI s4 339 10 a0 (n1 1) (fun s5 => bnd (fX7_before fu s5) (fun x4 s6 => wrI s6 339 10 a0 (n1 0) (fun s7 => bnd (fX7_strandedNow fu s7) (fun x5 s8 => bnd (fX7_tells fu x4 x5 s8) (fun x6 s9 => some (x6, s9)))))))) else some (-2, s2)) else some (-1, s2)))
def fX7_totalWith (fu : Nat) (a0 : Int) (a1 : Int) (σ : Mem) : PR := rdI σ 329 12 a0 (fun x1 => wrI σ 329 12 a0 (x1 + a1) (fun s1 => bnd (fX7_before fu s1) (fun x2 s2 => rdI s2 329 12 a0 (fun x3 => wrI s2 329 12 a0 (x3 - a1) (fun s3 => some (x2, s3))))))
def fX7_more (fu : Nat) (a0 : Int) (a1 : Int) (σ : Mem) : PR := stf σ 328 20 0 (fun s1 => bnd (fX7_isLine fu a0 s1) (fun x1 s2 => jn (fun s3 => some (-1, s3)) (fun (j1 : Mem → PR) => if w32 x1 = 0 then j1 s2 else bnd (fX7_in fu (w32 a1) (-59) 59 s2) (fun x2 s4 => if w32 x2 = 0 then j1 s4 else rdI s4 329 12 a0 (fun x3 => bnd (fX7_in fu (w32 (x3 + a1)) 1 60 s4) (fun x4 s5 => if w32 x4 ≠ 0 then bnd (fX7_before fu s5) (fun x5 s6 => stf s6 328 47 x5 (fun s7 => bnd (fX7_totalWith fu a0 a1 s7) (fun x6 s8 => bnd (fX7_strandedNow fu s8) (fun x7 s9 => bnd (fX7_tells fu x6 x7 s9) (fun x8 s10 => some (x8, s10)))))) else j1 s5))))))
def fX7_best_L26 (fu : Nat) (c1 : Int) (k98 : Int → Int → Mem → PR) : Nat → Int → Int → Int → Mem → PR
  | 0, _, _, _, _ => none
  | n + 1, x2, x3, x4, s3 => if w32 (s3 328 9) ≤ w32 x4 then k98 x2 x3 s3 else rdI s3 337 12 x4 (fun x7 => jn (fun x8 x9 s4 => fX7_best_L26 fu c1 k98 n x8 x9 (x4 + 1) s4) (fun (j1 : Int → Int → Mem → PR) => if w32 x7 ≠ 0 then j1 x2 x3 s3 else rdI s3 329 12 x4 (fun x10 => if w32 (x10 + c1) ≤ w32 60 then bnd (fX7_totalWith fu x4 c1 s3) (fun x11 s5 => jn (fun s6 => j1 x4 x11 s6) (fun (j2 : Mem → PR) => if w32 x2 = w32 (-1) then j2 s5 else if w64 x11 < w64 x3 then j2 s5 else j1 x2 x3 s5)) else j1 x2 x3 s3)))
def fX7_best (fu : Nat) (a0 : Int) (σ : Mem) : PR := stf σ 328 20 0 (fun s1 => bnd (fX7_in fu (w32 a0) 1 59 s1) (fun x1 s2 => if w32 x1 ≠ 0 then fX7_best_L26 fu a0 (fun x12 x13 s11 => if w32 x12 ≠ w32 (-1) then stf s11 328 19 0 (fun s12 => bnd (fX7_before fu s12) (fun x14 s13 => bnd (fX7_tell fu (x13 - x14) s13) (fun _ s14 => some (x12, s14)))) else some (-2, s11)) fu (-1) 0 0 s2 else some (-1, s2)))
def fX7_towards (fu : Nat) (a0 : Int) (σ : Mem) : PR := stf σ 328 20 0 (fun s1 => bnd (fX7_isStop fu a0 s1) (fun x1 s2 => if w32 x1 ≠ 0 then bnd (fX7_before fu s2) (fun x2 s3 => stf s3 328 47 x2 (fun s4 => lt (s4 328 11) (fun x3 => stf s4 328 11 a0 (fun s5 => bnd (fX7_before fu s5) (fun x4 s6 => bnd (fX7_strandedNow fu s6) (fun x5 s7 => stf s7 328 11 x3 (fun s8 => bnd (fX7_tells fu x4 x5 s8) (fun x6 s9 => some (x6, s9))))))))) else some (-1, s2)))
def fX7_slower (fu : Nat) (a0 : Int) (a1 : Int) (a2 : Int) (σ : Mem) : PR := stf σ 328 20 0 (fun s1 => bnd (fX7_isStep fu a0 a1 s1) (fun x1 s2 => jn (fun s3 => some (-1, s3)) (fun (j1 : Mem → PR) => if w32 x1 = 0 then j1 s2 else bnd (fX7_at fu a0 a1 s2) (fun x2 s4 => rdI s4 332 96 x2 (fun x3 => bnd (fX7_in fu ((w32 x3) + (w32 a2)) 1 99 s4) (fun x4 s5 => if w32 x4 ≠ 0 then bnd (fX7_before fu s5) (fun x5 s6 => stf s6 328 47 x5 (fun s7 => bnd (fX7_at fu a0 a1 s7) (fun x6 s8 => rdI s8 332 96 x6 (fun x7 => wrI s8 332 96 x6 (x7 + a2) (fun s9 => bnd (fX7_before fu s9) (fun x8 s10 => bnd (fX7_at fu a0 a1 s10) (fun x9 s11 => rdI s11 332 96 x9 (fun x10 => wrI s11 332 96 x9 (x10 - a2) (fun s12 => bnd (fX7_strandedNow fu s12) (fun x11 s13 => bnd (fX7_tells fu x8 x11 s13) (fun x12 s14 => some (x12, s14)))))))))))) else j1 s5))))))
def fX7_skips (fu : Nat) (a0 : Int) (a1 : Int) (σ : Mem) : PR := stf σ 328 20 0 (fun s1 => bnd (fX7_isStep fu a0 a1 s1) (fun x1 s2 => jn (fun s3 => some (-1, s3)) (fun (j1 : Mem → PR) => if w32 x1 = 0 then j1 s2 else if w32 a1 ≠ 0 then bnd (fX7_before fu s2) (fun x2 s4 => stf s4 328 47 x2 (fun s5 => bnd (fX7_at fu a0 a1 s5) (fun x3 s6 => stf s6 328 37 x3 (fun s7 => bnd (fX7_before fu s7) (fun x4 s8 => stf s8 328 37 (-1) (fun s9 => bnd (fX7_strandedNow fu s9) (fun x5 s10 => bnd (fX7_tells fu x4 x5 s10) (fun x6 s11 => some (x6, s11))))))))) else j1 s2)))
def fX7_uses_L42 (fu : Nat) (c1 : Int) (c2 : Int) (k84 : Mem → PR) : Nat → Int → Mem → PR
  | 0, _, _ => none
  | n + 1, x4, s6 => if w32 10 ≤ w32 x4 then k84 s6 else rdI s6 338 10 x4 (fun x5 => wrI s6 360 10 x4 x5 (fun s7 => jn (fun x6 s8 => wrI s8 338 10 x4 x6 (fun s9 => fX7_uses_L42 fu c1 c2 k84 n (x4 + 1) s9)) (fun (j2 : Int → Mem → PR) => if w32 x4 ≠ w32 c1 then j2 0 s7 else j2 1000 s7)))
def fX7_uses_L90 (fu : Nat) (c3 : Int) (k114 : Mem → PR) : Nat → Int → Mem → PR
  | 0, _, _ => none
  | n + 1, x7, s15 => if w32 10 ≤ w32 x7 then k114 s15 else rdI s15 360 10 x7 (fun x8 => wrI s15 338 10 x7 x8 (fun s16 => fX7_uses_L90 fu c3 k114 n (x7 + 1) s16))
def fX7_uses_L122 (fu : Nat) (c4 : Int) (k153 : Int → Mem → PR) : Nat → Int → Int → Mem → PR
  | 0, _, _, _ => none
  | n + 1, x9, x10, s20 => rdI s20 330 12 c4 (fun x12 => if w32 x12 ≤ w32 x10 then k153 x9 s20 else bnd (fX7_at fu c4 x10 s20) (fun x13 s21 => rdI s21 357 96 x13 (fun x14 => lt (x9 + x14) (fun x15 => fX7_uses_L122 fu c4 k153 n x15 (x10 + 1) s21))))
def fX7_uses_L156 (fu : Nat) (c5 : Int) (k194 : Int → Mem → PR) : Nat → Int → Int → Mem → PR
  | 0, _, _, _ => none
  | n + 1, x17, x18, s25 => if w32 10 ≤ w32 x18 then k194 x17 s25 else jn (fun x20 s26 => lt (x17 + x20) (fun x21 => fX7_uses_L156 fu c5 k194 n x21 (x18 + 1) s26)) (fun (j3 : Int → Mem → PR) => if w32 x18 ≠ w32 (s25 328 11) then rdI s25 359 10 x18 (fun x22 => j3 x22 s25) else j3 0 s25)
def fX7_uses (fu : Nat) (a0 : Int) (a1 : Int) (σ : Mem) : PR := stf σ 328 20 0 (fun s1 => bnd (fX7_isStop fu a0 s1) (fun x1 s2 => jn (fun s3 => some (-1, s3)) (fun (j1 : Mem → PR) => if w32 x1 = 0 then j1 s2 else bnd (fX7_isLine fu a1 s2) (fun x2 s4 => if w32 x2 ≠ 0 then bnd (fX7_laysCosts fu s4) (fun _ s5 => rdI s5 346 10 a0 (fun x3 => if w64 0 ≤ w64 x3 then fX7_uses_L42 fu a0 a1 (fun s13 => bnd (fX7_laysLoads fu s13) (fun _ s14 => fX7_uses_L90 fu a1 (fun s19 => fX7_uses_L122 fu a1 (fun x16 s24 => fX7_uses_L156 fu x16 (fun x23 s30 => stf s30 328 19 0 (fun s31 => bnd (fX7_tell fu x23 s31) (fun _ s32 => some (x16, s32)))) fu 0 0 s24) fu 0 0 s19) fu 0 s14)) fu 0 s5 else some (-2, s5))) else j1 s4))))
def fX7_centre_L20 (fu : Nat) (c1 : Int) (k92 : Int → Int → Int → Mem → PR) : Nat → Int → Int → Int → Int → Mem → PR
  | 0, _, _, _, _, _ => none
  | n + 1, x2, x3, x4, x5, s2 => if w32 10 ≤ w32 x5 then k92 x2 x3 x4 s2 else stf s2 328 11 x5 (fun s3 => bnd (fX7_before fu s3) (fun x9 s4 => bnd (fX7_strandedNow fu s4) (fun x10 s5 => jn (fun x11 x12 x13 s6 => fX7_centre_L20 fu c1 k92 n x11 x12 x13 (x5 + 1) s6) (fun (j1 : Int → Int → Int → Mem → PR) => jn (fun s7 => j1 x5 x9 x10 s7) (fun (j2 : Mem → PR) => if w32 x2 = w32 (-1) then j2 s5 else if w64 x4 < w64 x10 then j1 x2 x3 x4 s5 else if w64 x10 ≠ w64 x4 then j2 s5 else if w64 x9 < w64 x3 then j2 s5 else j1 x2 x3 x4 s5)))))
def fX7_centre (fu : Nat) (σ : Mem) : PR := stf σ 328 20 0 (fun s1 => lt (s1 328 11) (fun x1 => fX7_centre_L20 fu x1 (fun x14 x15 x16 s12 => stf s12 328 11 x1 (fun s13 => stf s13 328 19 0 (fun s14 => bnd (fX7_tell fu x15 s14) (fun _ s15 => bnd (fX7_tell fu x16 s15) (fun _ s16 => some (x14, s16)))))) fu (-1) 0 0 0 s1))
def fX7_spare_L26 (fu : Nat) (c1 : Int) (k104 : Int → Int → Mem → PR) : Nat → Int → Int → Int → Mem → PR
  | 0, _, _, _, _ => none
  | n + 1, x3, x4, x5, s5 => if w32 (s5 328 9) ≤ w32 x5 then k104 x3 x4 s5 else rdI s5 337 12 x5 (fun x8 => jn (fun x9 x10 s6 => fX7_spare_L26 fu c1 k104 n x9 x10 (x5 + 1) s6) (fun (j1 : Int → Int → Mem → PR) => if w32 x8 = 0 then wrI s5 337 12 x5 (n1 1) (fun s7 => bnd (fX7_before fu s7) (fun x11 s8 => jn (fun s9 => wrI s9 337 12 x5 (n1 0) (fun s10 => j1 x3 x4 s10)) (fun (j2 : Mem → PR) => if w64 x11 ≠ w64 (s8 328 47) then j2 s8 else bnd (fX7_strandedNow fu s8) (fun x12 s11 => if w64 x12 ≠ w64 c1 then j2 s11 else lt (or32 x3 (shl32 1 x5)) (fun x13 => j1 x13 (x4 + 1) s11))))) else j1 x3 x4 s5))
def fX7_spare_L107 (fu : Nat) (c2 : Int) (c3 : Int) (k140 : Mem → PR) : Nat → Int → Mem → PR
  | 0, _, _ => none
  | n + 1, x16, s17 => if w32 (s17 328 9) ≤ w32 x16 then k140 s17 else jn (fun s18 => fX7_spare_L107 fu c2 c3 k140 n (x16 + 1) s18) (fun (j3 : Mem → PR) => if w32 (and32 (shr32 c2 x16) 1) ≠ w32 1 then j3 s17 else wrI s17 337 12 x16 (n1 0) (fun s19 => j3 s19))
def fX7_spare (fu : Nat) (σ : Mem) : PR := stf σ 328 20 0 (fun s1 => bnd (fX7_before fu s1) (fun x1 s2 => stf s2 328 47 x1 (fun s3 => bnd (fX7_strandedNow fu s3) (fun x2 s4 => fX7_spare_L26 fu x2 (fun x14 x15 s16 => fX7_spare_L107 fu x14 x15 (fun s23 => stf s23 328 19 0 (fun s24 => bnd (fX7_tell fu (w32 x15) s24) (fun _ s25 => some (x14, s25)))) fu 0 s16) fu 0 0 0 s4))))
def fX7_offset (fu : Nat) (a0 : Int) (a1 : Int) (σ : Mem) : PR := stf σ 328 20 0 (fun s1 => bnd (fX7_isLine fu a0 s1) (fun x1 s2 => jn (fun s3 => some (-1, s3)) (fun (j1 : Mem → PR) => if w32 x1 = 0 then j1 s2 else bnd (fX7_in fu (w32 a1) 0 59 s2) (fun x2 s4 => if w32 x2 ≠ 0 then rdI s4 336 12 a0 (fun x3 => wrI s4 336 12 a0 a1 (fun s5 => some (x3, s5))) else j1 s4))))
def fX7_comesAt_L16 (fu : Nat) (c1 : Int) (c2 : Int) (c3 : Int) (k40 : Int → Mem → PR) : Nat → Int → Int → Mem → PR
  | 0, _, _, _ => none
  | n + 1, x3, x4, s1 => if w32 c2 ≤ w32 x4 then k40 x3 s1 else bnd (fX7_time fu c1 x4 s1) (fun x6 s2 => lt (x3 + x6) (fun x7 => fX7_comesAt_L16 fu c1 c2 c3 k40 n x7 (x4 + 1) s2))
def fX7_comesAt (fu : Nat) (a0 : Int) (a1 : Int) (a2 : Int) (σ : Mem) : PR := rdI σ 336 12 a0 (fun x1 => lt (100 * (w32 x1)) (fun x2 => fX7_comesAt_L16 fu a0 a1 a2 (fun x8 s5 => if w64 x8 < w64 a2 then lt (a2 - x8) (fun x9 => rdI s5 329 12 a0 (fun x10 => dv64 6000 (lt (div64 ((x9 * (w32 x10)) + 5999) 6000) (fun x11 => rdI s5 329 12 a0 (fun x12 => dv64 (w32 x12) (some (x8 + (div64 (6000 * x11) (w32 x12)), s5))))))) else some (x8, s5)) fu x2 0 σ))
def fX7_comes (fu : Nat) (a0 : Int) (a1 : Int) (a2 : Int) (σ : Mem) : PR := stf σ 328 20 0 (fun s1 => bnd (fX7_isHalt fu a0 a1 s1) (fun x1 s2 => jn (fun x2 s3 => some (x2, s3)) (fun (j1 : Int → Mem → PR) => jn (fun s4 => j1 (-1) s4) (fun (j2 : Mem → PR) => if w32 x1 = 0 then j2 s2 else bnd (fX7_in fu (w32 a2) 0 100000 s2) (fun x3 s5 => if w32 x3 = 0 then j2 s5 else bnd (fX7_comesAt fu a0 a1 (w32 a2) s5) (fun x4 s6 => j1 x4 s6))))))
def fX7_goes_L29 (fu : Nat) (c3 : Int) (c4 : Int) (c5 : Int) (c6 : Int) (k105 : Int → Int → Mem → PR) : Nat → Int → Int → Int → Mem → PR
  | 0, _, _, _, _ => none
  | n + 1, x4, x5, x6, s3 => rdI s3 352 10 c6 (fun x9 => if w32 x9 ≤ w32 x6 then k105 x4 x5 s3 else rdI s3 351 120 ((12 * c6) + x6) (fun x10 => bnd (fX7_placeOf fu x10 c6 s3) (fun x11 s4 => bnd (fX7_comesAt fu x10 x11 c5 s4) (fun x12 s5 => jn (fun x13 x14 s6 => fX7_goes_L29 fu c3 c4 c5 c6 k105 n x13 x14 (x6 + 1) s6) (fun (j1 : Int → Int → Mem → PR) => jn (fun s7 => j1 x10 x12 s7) (fun (j2 : Mem → PR) => if w32 x4 = w32 (-1) then j2 s5 else if w64 x12 < w64 x5 then j2 s5 else j1 x4 x5 s5))))))
def fX7_goes_L133 (fu : Nat) (c7 : Int) (c8 : Int) (c9 : Int) (c10 : Int) (k159 : Int → Mem → PR) : Nat → Int → Int → Mem → PR
  | 0, _, _, _ => none
  | n + 1, x19, x20, s15 => if w32 c10 ≤ w32 x20 then k159 x19 s15 else bnd (fX7_time fu c9 x20 s15) (fun x22 s16 => lt (x19 + x22) (fun x23 => fX7_goes_L133 fu c7 c8 c9 c10 k159 n x23 (x20 + 1) s16))
def fX7_goes_L11 (fu : Nat) (c1 : Int) (c2 : Int) (k214 : Int → Mem → PR) : Nat → Int → Int → Mem → PR
  | 0, _, _, _ => none
  | n + 1, x1, x2, s2 => if w32 x2 = w32 (s2 328 11) then k214 x1 s2 else fX7_goes_L29 fu c1 c2 x1 x2 (fun x15 x16 s12 => bnd (fX7_placeOf fu x15 x2 s12) (fun x17 s13 => bnd (fX7_leaves fu x15 x17 s13) (fun x18 s14 => fX7_goes_L133 fu c1 c2 x15 x18 (fun x24 s19 => bnd (fX7_at fu x15 x18 s19) (fun x25 s20 => rdI s20 331 96 x25 (fun x26 => jn (fun s21 => stf s21 328 49 ((s21 328 49) + 1) (fun s22 => fX7_goes_L11 fu c1 c2 k214 n x24 x26 s22)) (fun (j3 : Mem → PR) => if w32 c2 = 0 then j3 s20 else if w32 8 ≤ w32 (s20 328 49) then j3 s20 else bnd (fX7_tell fu (w32 x15) s20) (fun _ s23 => bnd (fX7_tell fu (w32 x26) s23) (fun _ s24 => j3 s24)))))) fu x16 x17 s14))) fu (-1) 0 0 s2
def fX7_goes (fu : Nat) (a0 : Int) (a1 : Int) (a2 : Int) (σ : Mem) : PR := stf σ 328 49 0 (fun s1 => fX7_goes_L11 fu a1 a2 (fun x27 s28 => some (x27 - a1, s28)) fu a1 a0 s1)
def fX7_journey (fu : Nat) (a0 : Int) (a1 : Int) (σ : Mem) : PR := stf σ 328 20 0 (fun s1 => bnd (fX7_isStop fu a0 s1) (fun x1 s2 => jn (fun s3 => some (-1, s3)) (fun (j1 : Mem → PR) => if w32 x1 = 0 then j1 s2 else bnd (fX7_in fu (w32 a1) 0 100000 s2) (fun x2 s4 => if w32 x2 ≠ 0 then bnd (fX7_laysCosts fu s4) (fun _ s5 => rdI s5 346 10 a0 (fun x3 => if w64 0 ≤ w64 x3 then stf s5 328 19 0 (fun s6 => bnd (fX7_goes fu a0 (w32 a1) 1 s6) (fun x4 s7 => some (x4, s7))) else some (-2, s5))) else j1 s4))))
def fX7_usual_L57 (fu : Nat) (c1 : Int) (c2 : Int) (k107 : Int → Int → Int → Mem → PR) : Nat → Int → Int → Int → Int → Mem → PR
  | 0, _, _, _, _, _ => none
  | n + 1, x4, x5, x6, x7, s6 => if w32 c2 ≤ w32 x7 then k107 x4 x5 x6 s6 else bnd (fX7_goes fu c1 (100 * (w32 x7)) 0 s6) (fun x11 s7 => lt (x4 + x11) (fun x12 => lt (min64 x5 x11) (fun x13 => lt (max64 x6 x11) (fun x14 => fX7_usual_L57 fu c1 c2 k107 n x12 x13 x14 (x7 + 1) s7))))
def fX7_usual (fu : Nat) (a0 : Int) (a1 : Int) (σ : Mem) : PR := stf σ 328 20 0 (fun s1 => bnd (fX7_isStop fu a0 s1) (fun x1 s2 => jn (fun s3 => some (-1, s3)) (fun (j1 : Mem → PR) => if w32 x1 = 0 then j1 s2 else bnd (fX7_in fu (w32 a1) 1 60 s2) (fun x2 s4 => if w32 x2 ≠ 0 then bnd (fX7_laysCosts fu s4) (fun _ s5 => rdI s5 346 10 a0 (fun x3 => if w64 0 ≤ w64 x3 then fX7_usual_L57 fu a0 a1 (fun x15 x16 x17 s10 => stf s10 328 19 0 (fun s11 => bnd (fX7_tell fu x16 s11) (fun _ s12 => bnd (fX7_tell fu x17 s12) (fun _ s13 => dv64 (w32 a1) (some (div64 x15 (w32 a1), s13)))))) fu 0 9223372036854775807 0 0 s5 else some (-2, s5))) else j1 s4))))
def fX7_ridersMany_L4 (fu : Nat) (k25 : Int → Mem → PR) : Nat → Int → Int → Mem → PR
  | 0, _, _, _ => none
  | n + 1, x1, x2, s1 => if w32 10 ≤ w32 x2 then k25 x1 s1 else rdI s1 338 10 x2 (fun x4 => lt (x1 + x4) (fun x5 => fX7_ridersMany_L4 fu k25 n x5 (x2 + 1) s1))
def fX7_ridersMany (fu : Nat) (σ : Mem) : PR := fX7_ridersMany_L4 fu (fun x6 s4 => some (x6, s4)) fu 0 0 σ
def fX7_stepMany_L4 (fu : Nat) (k29 : Int → Mem → PR) : Nat → Int → Int → Mem → PR
  | 0, _, _, _ => none
  | n + 1, x1, x2, s1 => if w32 (s1 328 9) ≤ w32 x2 then k29 x1 s1 else rdI s1 330 12 x2 (fun x4 => lt (x1 + (x4 - 1)) (fun x5 => fX7_stepMany_L4 fu k29 n x5 (x2 + 1) s1))
def fX7_stepMany (fu : Nat) (σ : Mem) : PR := fX7_stepMany_L4 fu (fun x6 s4 => some (x6, s4)) fu 0 0 σ
def fX7_closedBits_L4 (fu : Nat) (k35 : Int → Mem → PR) : Nat → Int → Int → Mem → PR
  | 0, _, _, _ => none
  | n + 1, x1, x2, s1 => if w32 10 ≤ w32 x2 then k35 x1 s1 else rdI s1 339 10 x2 (fun x4 => jn (fun x5 s2 => lt (or32 x1 x5) (fun x6 => fX7_closedBits_L4 fu k35 n x6 (x2 + 1) s2)) (fun (j1 : Int → Mem → PR) => if w32 x4 = 0 then j1 0 s1 else j1 (shl32 1 x2) s1))
def fX7_closedBits (fu : Nat) (σ : Mem) : PR := fX7_closedBits_L4 fu (fun x7 s6 => some (x7, s6)) fu 0 0 σ
def fX7_outBits_L4 (fu : Nat) (k37 : Int → Mem → PR) : Nat → Int → Int → Mem → PR
  | 0, _, _, _ => none
  | n + 1, x1, x2, s1 => if w32 (s1 328 9) ≤ w32 x2 then k37 x1 s1 else rdI s1 337 12 x2 (fun x4 => jn (fun x5 s2 => lt (or32 x1 x5) (fun x6 => fX7_outBits_L4 fu k37 n x6 (x2 + 1) s2)) (fun (j1 : Int → Mem → PR) => if w32 x4 = 0 then j1 0 s1 else j1 (shl32 1 x2) s1))
def fX7_outBits (fu : Nat) (σ : Mem) : PR := fX7_outBits_L4 fu (fun x7 s6 => some (x7, s6)) fu 0 0 σ
def fX7_unusedBits_L23 (fu : Nat) (c1 : Int) (k57 : Int → Mem → PR) : Nat → Int → Int → Mem → PR
  | 0, _, _, _ => none
  | n + 1, x5, x6, s3 => rdI s3 352 10 c1 (fun x8 => if w32 x8 ≤ w32 x6 then k57 x5 s3 else rdI s3 351 120 ((12 * c1) + x6) (fun x9 => lt (and32 x5 (xor32 (shl32 1 x9) (-1))) (fun x10 => fX7_unusedBits_L23 fu c1 k57 n x10 (x6 + 1) s3)))
def fX7_unusedBits_L15 (fu : Nat) (k63 : Int → Mem → PR) : Nat → Int → Int → Mem → PR
  | 0, _, _, _ => none
  | n + 1, x2, x3, s2 => if w32 10 ≤ w32 x3 then k63 x2 s2 else fX7_unusedBits_L23 fu x3 (fun x11 s6 => fX7_unusedBits_L15 fu k63 n x11 (x3 + 1) s6) fu x2 0 s2
def fX7_unusedBits (fu : Nat) (σ : Mem) : PR := bnd (fX7_laysCosts fu σ) (fun _ s1 => lt ((shl32 1 (s1 328 9)) - 1) (fun x1 => fX7_unusedBits_L15 fu (fun x12 s9 => some (x12, s9)) fu x1 0 s1))
def fX7_costedBits_L8 (fu : Nat) (k41 : Int → Mem → PR) : Nat → Int → Int → Mem → PR
  | 0, _, _, _ => none
  | n + 1, x1, x2, s2 => if w32 10 ≤ w32 x2 then k41 x1 s2 else rdI s2 346 10 x2 (fun x4 => jn (fun x5 s3 => lt (or32 x1 x5) (fun x6 => fX7_costedBits_L8 fu k41 n x6 (x2 + 1) s3)) (fun (j1 : Int → Mem → PR) => if w64 x4 < w64 0 then j1 0 s2 else j1 (shl32 1 x2) s2))
def fX7_costedBits (fu : Nat) (σ : Mem) : PR := bnd (fX7_laysCosts fu σ) (fun _ s1 => fX7_costedBits_L8 fu (fun x7 s7 => some (x7, s7)) fu 0 0 s1)
def fX7_count (fu : Nat) (a0 : Int) (σ : Mem) : PR := stf σ 328 20 0 (fun s1 => if w32 a0 < 0 ∨ 12 < w32 a0 then some (-1, s1) else if w32 a0 = 0 then some (s1 328 9, s1) else if w32 a0 = 1 then some (s1 328 10, s1) else if w32 a0 = 2 then some (s1 328 11, s1) else if w32 a0 = 3 then bnd (fX7_ridersMany fu s1) (fun x1 s2 => some (x1, s2)) else if w32 a0 = 4 then some (s1 328 12, s1) else if w32 a0 = 5 then some (s1 328 13, s1) else if w32 a0 = 6 then bnd (fX7_stepMany fu s1) (fun x2 s3 => some (x2, s3)) else if w32 a0 = 7 then bnd (fX7_closedBits fu s1) (fun x3 s4 => some (x3, s4)) else if w32 a0 = 8 then bnd (fX7_outBits fu s1) (fun x4 s5 => some (x4, s5)) else if w32 a0 = 9 then some (s1 328 19, s1) else if w32 a0 = 10 then some (s1 328 17, s1) else if w32 a0 = 11 then bnd (fX7_unusedBits fu s1) (fun x5 s6 => some (x5, s6)) else if w32 a0 = 12 then bnd (fX7_costedBits fu s1) (fun x6 s7 => some (x6, s7)) else none)
def fX7_row (fu : Nat) (a0 : Int) (σ : Mem) : PR := stf σ 328 20 0 (fun s1 => bnd (fX7_in fu (w32 a0) 0 (w32 ((s1 328 19) - 1)) s1) (fun x1 s2 => jn (fun x2 s3 => some (x2, s3)) (fun (j1 : Int → Mem → PR) => if w32 x1 = 0 then bnd (fX7_lost fu s2) (fun x3 s4 => j1 (w32 x3) s4) else rdI s2 341 32 a0 (fun x4 => j1 x4 s2))))
