/-! ===== reading a text: what both read ===== -/
abbrev dig (x : Int) : Prop := 48 ≤ x ∧ x ≤ 57
def nA (z : Nat → Int) (a : Nat) : Nat := if dig (z (a + 1)) then a + 2 else a + 1
def nV (z : Nat → Int) (a : Nat) : Int := if dig (z (a + 1)) then 10 * (z a - 48) + z (a + 1) - 48 else z a - 48
def rNum (z : Nat → Int) (most : Int) (a : Nat) : Int := if ¬ dig (z a) then (a : Int) else if 1 ≤ nV z a ∧ nV z a ≤ most then -1 else (nA z a : Int) - 1
def hsI (st : Nat → Int) (v : Int) : Nat → Int
  | 0 => 0
  | c + 1 => if st c = v then 1 else hsI st v c
def stW (z : Nat → Int) (a c : Nat) (st : Nat → Int) : Int := if dig (z a) ∧ hsI st (z a - 48) c = 0 then -1 else (a : Int)
def upf (g : Nat → Int) (i : Nat) (v : Int) : Nat → Int := fun j => if j = i then v else g j
abbrev zWS : Type := Nat × Nat × (Nat → Int) × (Nat → Int)
def erW (z : Nat → Int) (w : zWS) : Int := if z w.1 ≠ 45 then (w.1 : Int) else if rNum z 99 (w.1 + 1) ≠ -1 then rNum z 99 (w.1 + 1) else if z (nA z (w.1 + 1)) ≠ 45 then (nA z (w.1 + 1) : Int) else stW z (nA z (w.1 + 1) + 1) w.2.1 w.2.2.1
def nxW (z : Nat → Int) (w : zWS) : zWS := (nA z (w.1 + 1) + 2, w.2.1 + 1, upf w.2.2.1 w.2.1 (z (nA z (w.1 + 1) + 1) - 48), upf w.2.2.2 (w.2.1 - 1) (nV z (w.1 + 1)))
def wyL (z : Nat → Int) : Nat → zWS → Int × zWS
  | 0, w => (-1, w)
  | n + 1, w => if z w.1 ≠ 45 then (-1, w) else if erW z w ≠ -1 then (erW z w, w) else wyL z n (nxW z w)
def w1S (z : Nat → Int) (a : Nat) : zWS := (a + 1, 1, upf (fun _ => 0) 0 (z a - 48), upf (fun _ => 0) 0 0)
def wyE (z : Nat → Int) (a : Nat) : Int × zWS := if stW z a 0 (fun _ => 0) ≠ -1 then (stW z a 0 (fun _ => 0), w1S z a) else if erW z (w1S z a) ≠ -1 then (erW z (w1S z a), w1S z a) else wyL z 6 (nxW z (w1S z a))
def rlW (z : Nat → Int) (a m room : Nat) : Int := if room ≤ m then (a : Int) else if rNum z 60 a ≠ -1 then rNum z 60 a else if z (nA z a) = 61 ∧ room ≤ m + 1 then (a : Int) else if z (nA z a) ≠ 61 ∧ z (nA z a) ≠ 58 then (nA z a : Int) else (wyE z (nA z a + 1)).1
abbrev zLn : Type := Int × Nat × (Nat → Int) × (Nat → Int)
def lnO (f : Int) (w : zWS) : zLn := (f, w.2.1, w.2.2.1, w.2.2.2)
def revL (x : zLn) : zLn := (x.1, x.2.1, fun p => x.2.2.1 (x.2.1 - 1 - p), fun p => x.2.2.2 (x.2.1 - 2 - p))
def updL (LS : Nat → zLn) (m : Nat) (x : zLn) : Nat → zLn := fun k => if k = m then x else LS k
def rlL (z : Nat → Int) (a : Nat) : zLn := lnO (nV z a) (wyE z (nA z a + 1)).2
def rlA (z : Nat → Int) (a : Nat) : Nat := (wyE z (nA z a + 1)).2.1
def adL (z : Nat → Int) (a : Nat) (LS : Nat → zLn) (m : Nat) : Nat → zLn := if z (nA z a) = 61 then updL (updL LS m (rlL z a)) (m + 1) (revL (rlL z a)) else updL LS m (rlL z a)
def adM (z : Nat → Int) (a m : Nat) : Nat := if z (nA z a) = 61 then m + 2 else m + 1
/-- a text of at most 400 signs -/
def TxZ (z : Nat → Int) (N : Nat) : Prop := N ≤ 400 ∧ (∀ i, i < N → 0 ≤ z i ∧ z i ≤ 255) ∧ ∀ i, N ≤ i → z i = -1
def OkLn (x : zLn) : Prop := (1 ≤ x.1 ∧ x.1 ≤ 60) ∧ (2 ≤ x.2.1 ∧ x.2.1 ≤ 8) ∧ (∀ p, p < x.2.1 → 0 ≤ x.2.2.1 p ∧ x.2.2.1 p ≤ 9) ∧ (∀ p q, p < x.2.1 → q < x.2.1 → x.2.2.1 p = x.2.2.1 q → p = q) ∧ (∀ p, p + 1 < x.2.1 → 1 ≤ x.2.2.2 p ∧ x.2.2.2 p ≤ 99)
section READ
variable {V V' U σ σ' X W : Mem} {z : Nat → Int} {N a m room c Q fu k j p i t : Nat} {v x f ch : Int} {w : zWS} {st mi : Nat → Int} {LS : Nat → zLn}
theorem TxZ.b (h : TxZ z N) (i : Nat) : -1 ≤ z i ∧ z i ≤ 255 := by
  rcases Nat.lt_or_ge i N with g | g
  · have := h.2.1 i g; omega
  · have := h.2.2 i g; omega
theorem TxZ.lt (h : TxZ z N) {i : Nat} (g : 0 ≤ z i) : i < N := by
  rcases Nat.lt_or_ge i N with e | e
  · exact e
  · have := h.2.2 i e; omega
theorem nA_is (h : TxZ z N) (hd : dig (z a)) : a + 1 ≤ nA z a ∧ nA z a ≤ a + 2 ∧ nA z a ≤ N ∧ 0 ≤ nV z a ∧ nV z a ≤ 99 := by
  have h1 := h.lt (i := a) (by omega)
  unfold nA nV
  split
  · rename_i g
    have := h.lt (i := a + 1) (by omega)
    omega
  · omega
theorem rNum_ok {most : Int} (h : TxZ z N) (e : rNum z most a = -1) : dig (z a) ∧ 1 ≤ nV z a ∧ nV z a ≤ most := by
  unfold rNum at e
  by_cases g : dig (z a)
  · rw [if_neg (fun q => q g)] at e
    by_cases g2 : 1 ≤ nV z a ∧ nV z a ≤ most
    · exact ⟨g, g2⟩
    · rw [if_neg g2] at e
      have := nA_is h g
      omega
  · rw [if_pos g] at e; omega
theorem hsI_01 : ∀ c, hsI st v c = 0 ∨ hsI st v c = 1 := by
  intro c
  induction c with
  | zero => exact Or.inl rfl
  | succ c ih =>
    by_cases g : st c = v
    · exact Or.inr (if_pos g)
    · have e : hsI st v (c + 1) = hsI st v c := if_neg g
      rw [e]; exact ih
theorem hsI_found (h : st p = v) : ∀ c, p < c → hsI st v c = 1 := by
  intro c
  induction c with
  | zero => intro h; omega
  | succ c ih =>
    intro hp
    by_cases g : st c = v
    · exact if_pos g
    · have e : hsI st v (c + 1) = hsI st v c := if_neg g
      rw [e]
      refine ih ?_
      rcases Nat.lt_or_ge p c with a | a
      · exact a
      · exact absurd (by rw [show c = p by omega]; exact h) g
theorem hsI_none (h : hsI st v c = 0) (hp : p < c) : st p ≠ v := fun e => by have := hsI_found e c hp; omega
theorem hsI_all (h : ∀ p, p < c → st p ≠ v) : hsI st v c = 0 := by
  induction c with
  | zero => rfl
  | succ c ih =>
    have e : hsI st v (c + 1) = hsI st v c := if_neg (h c (by omega))
    rw [e]; exact ih (fun p hp => h p (by omega))
def WOk (w : zWS) : Prop := 1 ≤ w.2.1 ∧ (∀ p, p < w.2.1 → 0 ≤ w.2.2.1 p ∧ w.2.2.1 p ≤ 9) ∧ (∀ p q, p < w.2.1 → q < w.2.1 → w.2.2.1 p = w.2.2.1 q → p = q) ∧ (∀ p, p + 1 < w.2.1 → 1 ≤ w.2.2.2 p ∧ w.2.2.2 p ≤ 99)
theorem erW_ok (h : TxZ z N) (e : erW z w = -1) : z w.1 = 45 ∧ rNum z 99 (w.1 + 1) = -1 ∧ z (nA z (w.1 + 1)) = 45 ∧ dig (z (nA z (w.1 + 1) + 1)) ∧ hsI w.2.2.1 (z (nA z (w.1 + 1) + 1) - 48) w.2.1 = 0 := by
  unfold erW at e
  by_cases g1 : z w.1 = 45
  · rw [if_neg (fun q => q g1)] at e
    by_cases g2 : rNum z 99 (w.1 + 1) = -1
    · rw [if_neg (fun q => q g2)] at e
      by_cases g3 : z (nA z (w.1 + 1)) = 45
      · rw [if_neg (fun q => q g3)] at e
        unfold stW at e
        by_cases g4 : dig (z (nA z (w.1 + 1) + 1)) ∧ hsI w.2.2.1 (z (nA z (w.1 + 1) + 1) - 48) w.2.1 = 0
        · exact ⟨g1, g2, g3, g4⟩
        · rw [if_neg g4] at e; omega
      · rw [if_pos g3] at e; omega
    · rw [if_pos g2] at e; exact absurd e g2
  · rw [if_pos g1] at e; omega
theorem nxW_ok (h : TxZ z N) (hw : WOk w) (e : erW z w = -1) : WOk (nxW z w) ∧ (nxW z w).1 ≤ N := by
  obtain ⟨e1, e2, e3, e4, e5⟩ := erW_ok h e
  have hn := rNum_ok h e2
  have hl := h.lt (i := nA z (w.1 + 1) + 1) (by omega)
  obtain ⟨h1, h2, h3, h4⟩ := hw
  refine ⟨⟨by show 1 ≤ w.2.1 + 1; omega, fun p hp => ?_, fun p q hp hq => ?_, fun p hp => ?_⟩, by show nA z (w.1 + 1) + 2 ≤ N; omega⟩
  · show 0 ≤ upf w.2.2.1 w.2.1 (z (nA z (w.1 + 1) + 1) - 48) p ∧ upf w.2.2.1 w.2.1 (z (nA z (w.1 + 1) + 1) - 48) p ≤ 9
    have hp : p < w.2.1 + 1 := hp
    unfold upf
    split
    · omega
    · exact h2 p (by omega)
  · have hp : p < w.2.1 + 1 := hp
    have hq : q < w.2.1 + 1 := hq
    show upf w.2.2.1 w.2.1 (z (nA z (w.1 + 1) + 1) - 48) p = upf w.2.2.1 w.2.1 (z (nA z (w.1 + 1) + 1) - 48) q → p = q
    unfold upf
    intro g
    by_cases a1 : p = w.2.1
    · by_cases a2 : q = w.2.1
      · omega
      · rw [if_pos a1, if_neg a2] at g
        exact absurd g.symm (hsI_none e5 (by omega))
    · by_cases a2 : q = w.2.1
      · rw [if_neg a1, if_pos a2] at g
        exact absurd g (hsI_none e5 (by omega))
      · rw [if_neg a1, if_neg a2] at g
        exact h3 p q (by omega) (by omega) g
  · have hp : p + 1 < w.2.1 + 1 := hp
    show 1 ≤ upf w.2.2.2 (w.2.1 - 1) (nV z (w.1 + 1)) p ∧ upf w.2.2.2 (w.2.1 - 1) (nV z (w.1 + 1)) p ≤ 99
    unfold upf
    split
    · exact hn.2
    · exact h4 p (by omega)
theorem wyL_ok (h : TxZ z N) : ∀ n w, WOk w → w.1 ≤ N → 2 ≤ w.2.1 → w.2.1 + n ≤ 8 → (wyL z n w).1 = -1 → WOk (wyL z n w).2 ∧ (wyL z n w).2.1 ≤ N ∧ 2 ≤ (wyL z n w).2.2.1 ∧ (wyL z n w).2.2.1 ≤ 8 := by
  intro n
  induction n with
  | zero => intro w h1 h2 h3 h4 _; exact ⟨h1, h2, h3, by show w.2.1 ≤ 8; omega⟩
  | succ n ih =>
    intro w h1 h2 h3 h4 h5
    by_cases g1 : z w.1 ≠ 45
    · have e : wyL z (n + 1) w = (-1, w) := if_pos g1
      rw [e]; exact ⟨h1, h2, h3, by show w.2.1 ≤ 8; omega⟩
    · by_cases g2 : erW z w ≠ -1
      · have e : wyL z (n + 1) w = (erW z w, w) := by
          show (if z w.1 ≠ 45 then ((-1 : Int), w) else if erW z w ≠ -1 then (erW z w, w) else wyL z n (nxW z w)) = _
          rw [if_neg g1, if_pos g2]
        rw [e] at h5; exact absurd h5 g2
      · have e : wyL z (n + 1) w = wyL z n (nxW z w) := by
          show (if z w.1 ≠ 45 then ((-1 : Int), w) else if erW z w ≠ -1 then (erW z w, w) else wyL z n (nxW z w)) = _
          rw [if_neg g1, if_neg g2]
        have hx := nxW_ok h h1 (by omega)
        rw [e] at h5 ⊢
        exact ih _ hx.1 hx.2 (by show 2 ≤ w.2.1 + 1; omega) (by show w.2.1 + 1 + n ≤ 8; omega) h5
theorem wyE_ok (h : TxZ z N) (e : (wyE z a).1 = -1) : WOk (wyE z a).2 ∧ (wyE z a).2.1 ≤ N ∧ 2 ≤ (wyE z a).2.2.1 ∧ (wyE z a).2.2.1 ≤ 8 := by
  by_cases g1 : stW z a 0 (fun _ => 0) ≠ -1
  · have e1 : wyE z a = (stW z a 0 (fun _ => 0), w1S z a) := if_pos g1
    rw [e1] at e; exact absurd e g1
  · have hd : dig (z a) := by
      unfold stW at g1
      by_cases q : dig (z a) ∧ hsI (fun _ => 0) (z a - 48) 0 = 0
      · exact q.1
      · rw [if_neg q] at g1; omega
    by_cases g2 : erW z (w1S z a) ≠ -1
    · have e1 : wyE z a = (erW z (w1S z a), w1S z a) := by unfold wyE; rw [if_neg g1, if_pos g2]
      rw [e1] at e; exact absurd e g2
    · have e1 : wyE z a = wyL z 6 (nxW z (w1S z a)) := by unfold wyE; rw [if_neg g1, if_neg g2]
      have hw1 : WOk (w1S z a) := by
        refine ⟨Nat.le_refl _, fun p hp => ?_, fun p q hp hq _ => ?_, fun p hp => ?_⟩
        · have hp : p < 1 := hp
          show 0 ≤ upf (fun _ => 0) 0 (z a - 48) p ∧ upf (fun _ => 0) 0 (z a - 48) p ≤ 9
          unfold upf; rw [if_pos (by omega)]; omega
        · have hp : p < 1 := hp
          have hq : q < 1 := hq
          omega
        · have hp : p + 1 < 1 := hp
          omega
      have hx := nxW_ok h hw1 (by omega)
      rw [e1] at e ⊢
      exact wyL_ok h 6 _ hx.1 hx.2 (by show 2 ≤ 1 + 1; omega) (by show 1 + 1 + 6 ≤ 8; omega) e
theorem rlW_ok (h : TxZ z N) (e : rlW z a m room = -1) : m < room ∧ rNum z 60 a = -1 ∧ ((z (nA z a) = 61 ∧ m + 1 < room) ∨ z (nA z a) = 58) ∧ (wyE z (nA z a + 1)).1 = -1 := by
  unfold rlW at e
  by_cases g1 : room ≤ m
  · rw [if_pos g1] at e; omega
  · rw [if_neg g1] at e
    by_cases g2 : rNum z 60 a = -1
    · rw [if_neg (fun q => q g2)] at e
      by_cases g3 : z (nA z a) = 61 ∧ room ≤ m + 1
      · rw [if_pos g3] at e; omega
      · rw [if_neg g3] at e
        by_cases g4 : z (nA z a) ≠ 61 ∧ z (nA z a) ≠ 58
        · rw [if_pos g4] at e; omega
        · rw [if_neg g4] at e
          exact ⟨by omega, g2, by omega, e⟩
    · rw [if_pos g2] at e; exact absurd e g2
theorem rlL_ok (h : TxZ z N) (e : rlW z a m room = -1) : OkLn (rlL z a) ∧ rlA z a ≤ N := by
  obtain ⟨h1, h2, h3, h4⟩ := rlW_ok h e
  have hn := rNum_ok h h2
  have hw := wyE_ok h h4
  exact ⟨⟨⟨hn.2.1, hn.2.2⟩, hw.2.2, hw.1.2.1, hw.1.2.2.1, hw.1.2.2.2⟩, hw.2.1⟩
theorem revL_ok {x : zLn} (h : OkLn x) : OkLn (revL x) := by
  obtain ⟨h1, h2, h3, h4, h5⟩ := h
  refine ⟨h1, h2, fun p hp => h3 _ (by have hp : p < x.2.1 := hp; omega), fun p q hp hq e => ?_, fun p hp => h5 _ (by have hp : p + 1 < x.2.1 := hp; omega)⟩
  have hp : p < x.2.1 := hp
  have hq : q < x.2.1 := hq
  have := h4 _ _ (show x.2.1 - 1 - p < x.2.1 by omega) (show x.2.1 - 1 - q < x.2.1 by omega) e
  omega
/-! the class reads -/
def TxC (z : Nat → Int) (N a : Nat) (σ : Mem) : Prop := σ 1 1 = (N : Int) ∧ (∀ i, i < N → σ 2 i = z i) ∧ σ 1 5 = (a : Int)
theorem c_isNext (h : TxZ z N) (hT : TxC z N a σ) (ha : a ≤ 400) (hc : 0 ≤ ch ∧ ch ≤ 255) : wp (fX5_isNext fu ch σ) (fun r σ' => (r = 0 ∨ r = 1) ∧ (r = 1 ↔ z a = ch) ∧ σ = σ') := by
  have hN := h.1
  have hb := h.b a
  unfold fX5_isNext
  rw [hT.1, hT.2.2]
  refine wp_jn (wp_jn ?_)
  refine iLe (fun g => wp_rtz (Or.inl rfl) ⟨Or.inl rfl, ?_, rfl⟩) (fun g => ?_)
  · have := h.2.2 a (by omega); omega
  · refine rI a rfl (by omega) ?_
    rw [hT.2.1 a (by omega)]
    exact iNe (fun g2 => wp_rtz (Or.inl rfl) ⟨Or.inl rfl, by omega, rfl⟩) (fun g2 => wp_rtz (Or.inr rfl) ⟨Or.inr rfl, by omega, rfl⟩)
theorem c_isDigit (h : TxZ z N) (hT : TxC z N a σ) (ha : a ≤ 400) : wp (fX5_isDigitNext fu σ) (fun r σ' => (r = 0 ∨ r = 1) ∧ (r = 1 ↔ dig (z a)) ∧ σ = σ') := by
  have hN := h.1
  have hb := h.b a
  unfold fX5_isDigitNext
  rw [hT.1, hT.2.2]
  refine wp_jn (wp_jn ?_)
  refine iLe (fun g => wp_rtz (Or.inl rfl) ⟨Or.inl rfl, ?_, rfl⟩) (fun g => ?_)
  · have := h.2.2 a (by omega); omega
  · refine rI a rfl (by omega) ?_
    rw [hT.2.1 a (by omega)]
    refine iLt (fun g2 => wp_rtz (Or.inl rfl) ⟨Or.inl rfl, by omega, rfl⟩) (fun g2 => rI a rfl (by omega) ?_)
    rw [hT.2.1 a (by omega)]
    exact iLt (fun g3 => wp_rtz (Or.inl rfl) ⟨Or.inl rfl, by omega, rfl⟩) (fun g3 => wp_rtz (Or.inr rfl) ⟨Or.inr rfl, by omega, rfl⟩)
/-- the places of reading alone -/
def Fr1 (σ σ' : Mem) : Prop := ∀ k j, (k = 1 ∧ 4 ≤ j ∧ j ≤ 6) ∨ σ' k j = σ k j
theorem Fr1.refl (σ : Mem) : Fr1 σ σ := fun _ _ => Or.inr rfl
theorem c_fails (σ : Mem) (v : Int) : wp (fX5_fails fu v σ) (fun r σ' => r = 0 ∧ σ' 1 4 = v ∧ Fr1 σ σ') := by
  unfold fX5_fails
  refine wp_stf (wp_rtz (Or.inl rfl) ⟨rfl, ms_eq _ _ _ _, fun k j => ?_⟩)
  by_cases e : k = 1 ∧ j = 4
  · left; omega
  · rw [mset_eq, if_neg e]; exact Or.inr rfl
theorem Fr1.tx {b : Nat} (h : Fr1 σ σ') (hT : TxC z N a σ) (e : σ' 1 5 = (b : Int)) : TxC z N b σ' := ⟨by rw [← hT.1]; have := h 1 1; omega, fun i hi => by rw [← hT.2.1 i hi]; have := h 2 i; omega, e⟩
theorem c_number {most : Int} (h : TxZ z N) (hfu : 1000 < fu) (hT : TxC z N a σ) (ha : a ≤ N) (hm : 1 ≤ most ∧ most ≤ 99) : wp (fX5_readsNumber fu most σ) (fun r σ' => ((r = 0 ∧ rNum z most a ≠ -1 ∧ σ' 1 4 = rNum z most a) ∨ (r = 1 ∧ rNum z most a = -1 ∧ σ' 1 5 = (nA z a : Int) ∧ σ' 1 6 = nV z a)) ∧ Fr1 σ σ') := by
  have hN := h.1
  have hb := h.b a
  have hb1 := h.b (a + 1)
  unfold fX5_readsNumber
  refine wp_bnd _ (c_isDigit h hT (by omega)) ?_
  rintro r s' ⟨h0, h1, rfl⟩
  refine iNe0 (fun g => ?_) (fun g => ?_)
  · have hd : dig (z a) := h1.mp (by omega)
    have hna := nA_is h hd
    have hal := h.lt (i := a) (by omega)
    refine wp_stf ?_
    obtain ⟨f1, rfl⟩ : ∃ f1, fu = f1 + 3 := ⟨fu - 3, by omega⟩
    -- the end, wherever it comes
    have hend : ∀ s9 : Mem, s9 1 5 = (nA z a : Int) → s9 1 6 = nV z a → Fr1 σ s9 → wp (jn (fun x5 s10 => rtz x5 s10) (fun (j1 : Int → Mem → PR) => jn (fun s11 => j1 1 s11) (fun (j2 : Mem → PR) => jn (fun s12 => bnd (fX5_fails (f1 + 3) ((s12 1 5) - 1) s12) (fun x6 s13 => if w32 x6 = 0 then j1 0 s13 else j2 s13)) (fun (j3 : Mem → PR) => if w32 (s9 1 6) < w32 1 then j3 s9 else if w32 (s9 1 6) ≤ w32 most then j2 s9 else j3 s9)))) (fun r σ' => ((r = 0 ∧ rNum z most a ≠ -1 ∧ σ' 1 4 = rNum z most a) ∨ (r = 1 ∧ rNum z most a = -1 ∧ σ' 1 5 = (nA z a : Int) ∧ σ' 1 6 = nV z a)) ∧ Fr1 σ σ') := by
      intro s9 e5 e6 hfr
      have hbad : ¬ (1 ≤ nV z a ∧ nV z a ≤ most) → wp (bnd (fX5_fails (f1 + 3) ((s9 1 5) - 1) s9) (fun x6 s13 => if w32 x6 = 0 then rtz 0 s13 else rtz 1 s13)) (fun r σ' => ((r = 0 ∧ rNum z most a ≠ -1 ∧ σ' 1 4 = rNum z most a) ∨ (r = 1 ∧ rNum z most a = -1 ∧ σ' 1 5 = (nA z a : Int) ∧ σ' 1 6 = nV z a)) ∧ Fr1 σ σ') := by
        intro q
        have er : rNum z most a = (nA z a : Int) - 1 := by unfold rNum; rw [if_neg (fun q => q hd), if_neg q]
        refine wp_bnd _ (c_fails s9 _) ?_
        rintro r s10 ⟨rfl, w1, w2⟩
        refine iEq0 (fun _ => wp_rtz (Or.inl rfl) ⟨Or.inl ⟨rfl, by omega, by rw [w1, e5, er]⟩, fun k j => ?_⟩) (fun h => absurd rfl h)
        have := w2 k j
        have := hfr k j
        omega
      refine wp_jn (wp_jn (wp_jn ?_))
      rw [e6]
      refine iLt (fun q => hbad (by omega)) (fun q1 => ?_)
      refine iLe (fun q2 => wp_rtz (Or.inr rfl) ⟨Or.inr ⟨rfl, ?_, e5, e6⟩, hfr⟩) (fun q2 => hbad (by omega))
      unfold rNum; rw [if_neg (fun q => q hd), if_pos ⟨q1, q2⟩]
    rw [fX5_readsNumber_L23]
    refine iLe (fun h => by omega) (fun _ => ?_)
    have hfr2 : Fr1 σ (mset σ 1 6 0) := fun k j => by
      by_cases e : k = 1 ∧ j = 6
      · left; omega
      · rw [mset_eq, if_neg e]; exact Or.inr rfl
    have hT2 : TxC z N a (mset σ 1 6 0) := hfr2.tx hT (by rw [ms_j (by omega)]; exact hT.2.2)
    refine wp_bnd _ (c_isDigit h hT2 (by omega)) ?_
    rintro r2 s' ⟨g0, g1, rfl⟩
    refine iEq0 (fun q => by omega) (fun _ => ?_)
    rw [hT2.2.2]
    refine rI a rfl (by omega) ?_
    rw [hT2.2.1 a hal, ms_eq]
    refine wp_stf (wp_stf ?_)
    rw [ms_j (by omega), hT2.2.2]
    have hT3 : TxC z N (a + 1) (mset (mset (mset σ 1 6 0) 1 6 (10 * 0 + z a - 48)) 1 5 ((a : Int) + 1)) := by
      refine ⟨by rw [ms_j (by omega), ms_j (by omega)]; exact hT2.1, fun i hi => by rw [ms_k (by omega), ms_k (by omega)]; exact hT2.2.1 i hi, by rw [ms_eq]; omega⟩
    have hfr3 : Fr1 σ (mset (mset (mset σ 1 6 0) 1 6 (10 * 0 + z a - 48)) 1 5 ((a : Int) + 1)) := fun k j => by
      by_cases e : k = 1 ∧ (j = 5 ∨ j = 6)
      · left; omega
      · rw [mset_eq, if_neg (by omega), mset_eq, if_neg (by omega)]; exact hfr2 k j
    have e36 : mset (mset (mset σ 1 6 0) 1 6 (10 * 0 + z a - 48)) 1 5 ((a : Int) + 1) 1 6 = z a - 48 := by rw [ms_j (by omega), ms_eq]; omega
    generalize mset (mset (mset σ 1 6 0) 1 6 (10 * 0 + z a - 48)) 1 5 ((a : Int) + 1) = s3 at *
    rw [fX5_readsNumber_L23]
    refine iLe (fun h => by omega) (fun _ => ?_)
    refine wp_bnd _ (c_isDigit h hT3 (by omega)) ?_
    rintro r3 s' ⟨q0, q1, rfl⟩
    refine iEq0 (fun q => ?_) (fun q => ?_)
    · have hnd : ¬ dig (z (a + 1)) := fun g => by have := q1.mpr g; omega
      refine hend s3 ?_ ?_ hfr3
      · rw [hT3.2.2]; unfold nA; rw [if_neg hnd]
      · rw [e36]; unfold nV; rw [if_neg hnd]
    · have hd1 : dig (z (a + 1)) := q1.mp (by omega)
      have hal1 := h.lt (i := a + 1) (by omega)
      rw [hT3.2.2]
      refine rI (a + 1) rfl (by omega) ?_
      rw [hT3.2.1 _ hal1, e36]
      refine wp_stf (wp_stf ?_)
      rw [ms_j (by omega), hT3.2.2]
      rw [fX5_readsNumber_L23]
      refine iLe (fun _ => ?_) (fun h => by omega)
      refine hend _ ?_ ?_ (fun k j => ?_)
      · rw [ms_eq]; unfold nA; rw [if_pos hd1]; omega
      · rw [ms_j (by omega), ms_eq]; unfold nV; rw [if_pos hd1]
      · by_cases e : k = 1 ∧ (j = 5 ∨ j = 6)
        · left; omega
        · rw [mset_eq, if_neg (by omega), mset_eq, if_neg (by omega)]; exact hfr3 k j
  · have hnd : ¬ dig (z a) := fun q => by have := h1.mpr q; omega
    have er : rNum z most a = (a : Int) := by unfold rNum; rw [if_pos hnd]
    rw [hT.2.2]
    refine wp_bnd _ (c_fails σ _) ?_
    rintro r s10 ⟨rfl, w1, w2⟩
    exact wp_rtz (Or.inl rfl) ⟨Or.inl ⟨rfl, by omega, by rw [w1, er]⟩, w2⟩
theorem c_sign (h : TxZ z N) (hT : TxC z N a σ) (ha : a ≤ 400) (hc : 0 ≤ ch ∧ ch ≤ 255) : wp (fX5_readsSign fu ch σ) (fun r σ' => ((r = 0 ∧ z a ≠ ch ∧ σ' 1 4 = (a : Int)) ∨ (r = 1 ∧ z a = ch ∧ σ' 1 5 = ((a + 1 : Nat) : Int) ∧ σ' 1 6 = σ 1 6)) ∧ Fr1 σ σ') := by
  unfold fX5_readsSign
  refine wp_bnd _ (c_isNext h hT ha hc) ?_
  rintro r s' ⟨h0, h1, rfl⟩
  rw [hT.2.2]
  refine iNe0 (fun g => wp_stf (wp_rtz (Or.inr rfl) ⟨Or.inr ⟨rfl, h1.mp (by omega), by rw [ms_eq]; omega, ms_j (by omega)⟩, fun k j => ?_⟩)) (fun g => ?_)
  · by_cases e : k = 1 ∧ j = 5
    · left; omega
    · rw [mset_eq, if_neg e]; exact Or.inr rfl
  · refine wp_bnd _ (c_fails σ _) ?_
    rintro r s10 ⟨rfl, w1, w2⟩
    exact wp_rtz (Or.inl rfl) ⟨Or.inl ⟨rfl, fun q => by have := h1.mpr q; omega, w1⟩, w2⟩
end READ
