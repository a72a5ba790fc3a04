/-! ===== where they alight, shares, loads: what both compute ===== -/
section LSPEC
variable {V σ : Mem} {c : Nat → Int} {l P p s fu : Nat} {x : Int}
def lvR (V : Mem) (c : Nat → Int) (l : Nat) : Nat → Nat → Nat
  | 0, q => q
  | d + 1, q => if alv V c l q ≠ 0 then q else lvR V c l d (q + 1)
def lvq (V : Mem) (c : Nat → Int) (l p : Nat) : Nat := lvR V c l (ln V l - (p + 1)) (p + 1)
theorem lvR_spec (ok : OkN V) (hb : ∀ s, -1 ≤ c s) : ∀ d q, q + d = ln V l → 0 ≤ ahv V c l q → lvR V c l d q < ln V l ∧ q ≤ lvR V c l d q ∧ alv V c l (lvR V c l d q) = 1 ∧ (∀ j, q ≤ j → j < lvR V c l d q → alv V c l j = 0) ∧ 0 ≤ offv V c l (lvR V c l d q) ∧ offv V c l (lvR V c l d q) ≤ ahv V c l q := by
  intro d
  induction d with
  | zero => intro q h1 h2; rw [ahv_end (by omega)] at h2; omega
  | succ d ih =>
    intro q h1 h2
    have h01 := alv_01 (V := V) (c := c) (l := l) (p := q)
    have hal := ahv_al (V := V) (c := c) (l := l) (p := q) (by omega)
    unfold lvR
    by_cases h : alv V c l q ≠ 0
    · rw [if_pos h]
      rw [if_neg h] at hal
      exact ⟨by omega, Nat.le_refl _, by omega, fun j h3 h4 => by omega, by omega, by omega⟩
    · rw [if_neg h]
      have h : alv V c l q = 0 := by omega
      rw [if_pos h] at hal
      have hge := ahv_ge ok hb l (q + 1)
      have htm := ok.tm l q
      have hA : 0 ≤ ahv V c l (q + 1) ∧ ahv V c l q = tmv V l q + ahv V c l (q + 1) := by
        unfold bda pls at hal
        split at hal <;> omega
      obtain ⟨i1, i2, i3, i4, i5, i6⟩ := ih (q + 1) (by omega) hA.1
      refine ⟨i1, by omega, i3, fun j h3 h4 => ?_, i5, by omega⟩
      by_cases e : j = q
      · rw [e]; exact h
      · exact i4 j (by omega) h4
/-- a line of a stop's set: where it halts there, that it goes on, where it is left -/
theorem tk_line (ok : OkN V) (hb : ∀ s, -1 ≤ c s) {i : Nat} (hi : i < (tk V c s).length) : (gtL (tk V c s) i).2 < nn V ∧ V 337 (gtL (tk V c s) i).2 = 0 ∧ plc V (gtL (tk V c s) i).2 s + 1 < ln V (gtL (tk V c s) i).2 ∧ sp V (gtL (tk V c s) i).2 (plc V (gtL (tk V c s) i).2 s) = s ∧ (gtL (tk V c s) i).1 = bda V c (gtL (tk V c s) i).2 (plc V (gtL (tk V c s) i).2 s) ∧ 0 ≤ bda V c (gtL (tk V c s) i).2 (plc V (gtL (tk V c s) i).2 s) ∧ 0 ≤ ahv V c (gtL (tk V c s) i).2 (plc V (gtL (tk V c s) i).2 s + 1) ∧ bda V c (gtL (tk V c s) i).2 (plc V (gtL (tk V c s) i).2 s) = tmv V (gtL (tk V c s) i).2 (plc V (gtL (tk V c s) i).2 s) + ahv V c (gtL (tk V c s) i).2 (plc V (gtL (tk V c s) i).2 s + 1) := by
  have hm := ofl_mem (tk_mem (gtL_mem hi))
  generalize gtL (tk V c s) i = y at *
  obtain ⟨h1, h2, h3⟩ := hm
  have h4 := h2
  unfold bdv at h4
  split at h4
  · omega
  · rename_i g
    have hge := ahv_ge ok hb y.2 (plc V y.2 s + 1)
    have hb0 : 0 ≤ bda V c y.2 (plc V y.2 s) := by omega
    have hb1 := hb0
    unfold bda pls at hb1
    refine ⟨h1, by omega, by omega, plc_sp (by omega), h4, hb0, by split at hb1 <;> omega, ?_⟩
    unfold bda pls
    split at hb1
    · omega
    · rename_i g2; rw [if_neg g2]
theorem tk_lv (ok : OkN V) (hb : ∀ s, -1 ≤ c s) {i : Nat} (hi : i < (tk V c s).length) : plc V (gtL (tk V c s) i).2 s < lvq V c (gtL (tk V c s) i).2 (plc V (gtL (tk V c s) i).2 s) ∧ lvq V c (gtL (tk V c s) i).2 (plc V (gtL (tk V c s) i).2 s) < ln V (gtL (tk V c s) i).2 ∧ alv V c (gtL (tk V c s) i).2 (lvq V c (gtL (tk V c s) i).2 (plc V (gtL (tk V c s) i).2 s)) = 1 ∧ (∀ j, plc V (gtL (tk V c s) i).2 s < j → j < lvq V c (gtL (tk V c s) i).2 (plc V (gtL (tk V c s) i).2 s) → alv V c (gtL (tk V c s) i).2 j = 0) ∧ 0 ≤ offv V c (gtL (tk V c s) i).2 (lvq V c (gtL (tk V c s) i).2 (plc V (gtL (tk V c s) i).2 s)) ∧ offv V c (gtL (tk V c s) i).2 (lvq V c (gtL (tk V c s) i).2 (plc V (gtL (tk V c s) i).2 s)) ≤ ahv V c (gtL (tk V c s) i).2 (plc V (gtL (tk V c s) i).2 s + 1) := by
  have h1 := tk_line ok hb hi
  generalize gtL (tk V c s) i = y at *
  have h2 := lvR_spec (l := y.2) ok hb (ln V y.2 - (plc V y.2 s + 1)) (plc V y.2 s + 1) (by omega) h1.2.2.2.2.2.2.1
  unfold lvq
  exact ⟨by omega, h2.1, h2.2.2.1, fun j h3 h4 => h2.2.2.2.1 j (by omega) h4, h2.2.2.2.2.1, h2.2.2.2.2.2⟩
def shr (V : Mem) (c : Nat → Int) (s : Nat) (x : Int) (i : Nat) : Int := x * frv V (gtL (tk V c s) i).2 / fs V c s
def ssm (V : Mem) (c : Nat → Int) (s : Nat) (x : Int) : Nat → Int
  | 0 => 0
  | k + 1 => ssm V c s x k + shr V c s x k
def frk (V : Mem) (c : Nat → Int) (s : Nat) : Nat → Int
  | 0 => 0
  | k + 1 => frk V c s k + frv V (gtL (tk V c s) k).2
def amt (V : Mem) (c : Nat → Int) (s : Nat) (x : Int) (i : Nat) : Int := shr V c s x i + (if i = 0 then x - ssm V c s x (tk V c s).length else 0)
def addX (X : Mem) (l p q : Nat) (a : Int) (t : Nat) : Mem := fun k j => if (k = 357 ∧ j = 8 * l + p) ∨ (k = 358 ∧ j = 8 * l + q) ∨ (k = 359 ∧ j = t) ∨ (k = 356 ∧ 8 * l + p ≤ j ∧ j < 8 * l + q) then X k j + a else X k j
def pas (V : Mem) (c : Nat → Int) (s : Nat) (x : Int) : Nat → Mem → Mem
  | 0, X => X
  | i + 1, X => addX (pas V c s x i X) (gtL (tk V c s) i).2 (plc V (gtL (tk V c s) i).2 s) (lvq V c (gtL (tk V c s) i).2 (plc V (gtL (tk V c s) i).2 s)) (amt V c s x i) (sp V (gtL (tk V c s) i).2 (lvq V c (gtL (tk V c s) i).2 (plc V (gtL (tk V c s) i).2 s)))
def lds (V : Mem) (c rid : Nat → Int) : Nat → Mem
  | 0 => fun _ _ => 0
  | k + 1 => pas V c (gtL (od V c) k).2 (rid (gtL (od V c) k).2 + lds V c rid k 359 (gtL (od V c) k).2) (tk V c (gtL (od V c) k).2).length (lds V c rid k)
def bk : Nat → Int
  | 0 => 0
  | k + 1 => 2 * bk k + 9999
theorem bk_le : ∀ k, k ≤ 10 → 0 ≤ bk k ∧ bk k ≤ 10230000 := by decide
def sumF (fr : Nat → Int) : List (Int × Nat) → Int
  | [] => 0
  | x :: t => fr x.2 + sumF fr t
theorem gre_F (fr : Nat → Int) : ∀ (L : List (Int × Nat)) (N F : Int), (gre fr N F L).2.2 = F + sumF fr (gre fr N F L).1 := by
  intro L
  induction L with
  | nil => intro N F; simp [gre, sumF]
  | cons y t ih =>
    intro N F
    unfold gre
    split
    · simp only [sumF]; rw [ih]; omega
    · simp [sumF]
theorem sumF_take (fr : Nat → Int) : ∀ (L : List (Int × Nat)) (g : Nat → Int) , (g 0 = 0) → (∀ k, k < L.length → g (k + 1) = g k + fr (gtL L k).2) → ∀ k, k ≤ L.length → g k = sumF fr (L.take k) := by
  intro L
  induction L with
  | nil =>
    intro g h0 _ k hk
    have e : k = 0 := by simpa using hk
    subst e
    simp [sumF, h0]
  | cons y t ih =>
    intro g h0 h1 k hk
    simp only [List.length_cons] at hk h1
    cases k with
    | zero => simp [sumF, h0]
    | succ k =>
      have e0 := h1 0 (by omega)
      rw [h0, gtL_cons0] at e0
      have := ih (fun k => g (k + 1) - g 1) (by show g (0 + 1) - g 1 = 0; simp) (fun k hk => by
        have := h1 (k + 1) (by omega)
        rw [gtL_consS] at this
        show g (k + 1 + 1) - g 1 = g (k + 1) - g 1 + fr (gtL t k).2
        omega) k (by omega)
      simp only [List.take_succ_cons, sumF]
      rw [← this]
      show g (k + 1) = fr y.2 + (g (k + 1) - g 1)
      simp only [Nat.zero_add] at e0
      omega
theorem frk_fs : frk V c s (tk V c s).length = fs V c s := by
  rw [sumF_take (frv V) (tk V c s) (frk V c s) rfl (fun k _ => rfl) _ (Nat.le_refl _), List.take_length]
  have := gre_F (frv V) (ofl V c s (nn V)) (60 * V 328 10) 0
  unfold fs tk grv
  omega
theorem frk_ge (ok : OkN V) : ∀ k : Nat, (k : Int) ≤ frk V c s k ∧ frk V c s k ≤ 60 * (k : Int) := by
  intro k
  induction k with
  | zero => simp [frk]
  | succ k ih =>
    have := ok.fr (gtL (tk V c s) k).2
    simp only [frk]
    omega
theorem fs_b (ok : OkN V) : ((tk V c s).length : Int) ≤ fs V c s ∧ fs V c s ≤ 720 := by
  rw [← frk_fs]
  have h1 := frk_ge (c := c) (s := s) ok (tk V c s).length
  have h2 := tk_len (c := c) (s := s) ok
  omega
theorem shr_ge (ok : OkN V) (hx : 0 ≤ x) (i : Nat) : 0 ≤ shr V c s x i := by
  unfold shr
  have h1 := ok.fr (gtL (tk V c s) i).2
  have h2 := fs_b (c := c) (s := s) ok
  exact Int.ediv_nonneg (Int.mul_nonneg hx (by omega)) (by omega)
theorem ssm_mono (ok : OkN V) (hx : 0 ≤ x) {i j : Nat} (h : i ≤ j) : ssm V c s x i ≤ ssm V c s x j := by
  induction j with
  | zero => rw [show i = 0 by omega]; exact Int.le_refl _
  | succ j ih =>
    by_cases e : i = j + 1
    · rw [e]; exact Int.le_refl _
    · have := ih (by omega)
      have := shr_ge (c := c) (s := s) ok hx j
      simp only [ssm]
      omega
theorem ssm_le (ok : OkN V) (hx : 0 ≤ x) (hf : 1 ≤ fs V c s) : ssm V c s x (tk V c s).length ≤ x := by
  have h : ∀ k, fs V c s * ssm V c s x k ≤ x * frk V c s k := by
    intro k
    induction k with
    | zero => simp [ssm, frk]
    | succ k ih =>
      simp only [ssm, frk, Int.mul_add]
      have : fs V c s * shr V c s x k ≤ x * frv V (gtL (tk V c s) k).2 := by
        unfold shr
        rw [Int.mul_comm]
        exact Int.ediv_mul_le _ (by omega)
      omega
  have h1 := h (tk V c s).length
  rw [frk_fs, Int.mul_comm x] at h1
  exact Int.le_of_mul_le_mul_left h1 (by omega)
def asm (V : Mem) (c : Nat → Int) (s : Nat) (x : Int) : Nat → Int
  | 0 => 0
  | k + 1 => asm V c s x k + amt V c s x k
theorem asm_eq : ∀ k, asm V c s x (k + 1) = ssm V c s x (k + 1) + (x - ssm V c s x (tk V c s).length) := by
  intro k
  induction k with
  | zero => simp only [asm, ssm, amt]; simp
  | succ k ih =>
    have h1 : asm V c s x (k + 1 + 1) = asm V c s x (k + 1) + amt V c s x (k + 1) := rfl
    have h2 : ssm V c s x (k + 1 + 1) = ssm V c s x (k + 1) + shr V c s x (k + 1) := rfl
    have h3 : amt V c s x (k + 1) = shr V c s x (k + 1) := by unfold amt; rw [if_neg (show ¬ k + 1 = 0 by omega)]; omega
    omega
theorem asm_le (ok : OkN V) (hx : 0 ≤ x) (hf : 1 ≤ fs V c s) {i : Nat} (hi : i ≤ (tk V c s).length) : 0 ≤ asm V c s x i ∧ asm V c s x i ≤ x := by
  cases i with
  | zero => simp [asm]; exact hx
  | succ i =>
    rw [asm_eq]
    have h1 := ssm_mono (c := c) (s := s) ok hx hi
    have h2 := ssm_le ok hx hf
    have h3 := ssm_mono (c := c) (s := s) ok hx (Nat.zero_le (i + 1))
    simp only [ssm] at h1 h3 ⊢
    omega
theorem amt_ge (ok : OkN V) (hx : 0 ≤ x) (hf : 1 ≤ fs V c s) (i : Nat) : 0 ≤ amt V c s x i := by
  unfold amt
  have h1 := shr_ge (c := c) (s := s) ok hx i
  have h2 := ssm_le ok hx hf
  split <;> omega
theorem pas_b (ok : OkN V) (hx : 0 ≤ x) (hf : 1 ≤ fs V c s) {X : Mem} {M : Int} (hX : ∀ k j, 0 ≤ X k j ∧ X k j ≤ M) : ∀ i, ∀ k j, 0 ≤ pas V c s x i X k j ∧ pas V c s x i X k j ≤ M + asm V c s x i := by
  intro i
  induction i with
  | zero => intro k j; have := hX k j; simp only [pas, asm]; omega
  | succ i ih =>
    intro k j
    have h1 := ih k j
    have h2 := amt_ge ok hx hf i
    simp only [pas, asm, addX]
    split <;> omega
/-- the cost that both end at: a stop in the order has a set -/
theorem fs_pos (ok : OkN V) (hb : CstOk V c) (hs : s < 10) (hg : s ≠ gl V) (hc : 0 ≤ c s) (hfix : Tv V c s = c s) : 1 ≤ fs V c s ∧ V 339 s = 0 := by
  have h01 := (ok.2.2.2.2.1 s hs).2
  have h339 : V 339 s = 0 := by
    rcases h01 with e | e
    · exact e
    · have := hb.cl hs (by omega); omega
  refine ⟨?_, h339⟩
  have h := Tv_grv (c := c) hs hg h339
  have h2 := fs_b (c := c) (s := s) ok
  rw [hfix] at h
  by_cases e : fs V c s = 0
  · rw [if_pos e] at h; omega
  · omega
theorem od_mem (hb : CstOk V c) {i : Nat} (hi : i < (od V c).length) : (gtL (od V c) i).2 < 10 ∧ (gtL (od V c) i).2 ≠ gl V ∧ 0 ≤ c (gtL (od V c) i).2 := by
  have := odk_mem hb.1 (gtL_mem hi)
  exact ⟨this.1, this.2.2.1, this.2.2.2⟩
theorem lds_b (ok : OkN V) (hb : CstOk V c) (hfix : ∀ s, s < 10 → Tv V c s = c s) {rid : Nat → Int} (hr : ∀ s, s < 10 → 0 ≤ rid s ∧ rid s ≤ 9999) : ∀ k, k ≤ (od V c).length → ∀ a j, 0 ≤ lds V c rid k a j ∧ lds V c rid k a j ≤ bk k := by
  intro k
  induction k with
  | zero => intro _ a j; simp [lds, bk]
  | succ k ih =>
    intro hk a j
    have hm := od_mem hb (show k < (od V c).length by omega)
    have hf := fs_pos ok hb hm.1 hm.2.1 hm.2.2 (hfix _ hm.1)
    have h1 := ih (by omega)
    have h2 := h1 359 (gtL (od V c) k).2
    have h3 := hr _ hm.1
    have h4 := pas_b ok (x := rid (gtL (od V c) k).2 + lds V c rid k 359 (gtL (od V c) k).2) (by omega) hf.1 h1 (tk V c (gtL (od V c) k).2).length a j
    have h5 := asm_le ok (x := rid (gtL (od V c) k).2 + lds V c rid k 359 (gtL (od V c) k).2) (by omega) hf.1 (Nat.le_refl _)
    simp only [lds, bk]
    omega
end LSPEC
