/-! ===== what both compute, said of a memory V in the reference's layout ===== -/
def nn (V : Mem) : Nat := (V 328 9).toNat
def ln (V : Mem) (l : Nat) : Nat := (V 330 l).toNat
def sp (V : Mem) (l p : Nat) : Nat := (V 331 (8 * l + p)).toNat
def gl (V : Mem) : Nat := (V 328 11).toNat
def frv (V : Mem) (l : Nat) : Int := if l < nn V then V 329 l else 1
def tmv (V : Mem) (l p : Nat) : Int := if l < nn V ∧ p + 1 < ln V l then 100 * V 332 (8 * l + p) + V 333 (8 * l + p) else 0
def OkL (V : Mem) (l : Nat) : Prop := (1 ≤ V 329 l ∧ V 329 l ≤ 60) ∧ (2 ≤ V 330 l ∧ V 330 l ≤ 8) ∧ (1 ≤ V 335 l ∧ V 335 l ≤ 999) ∧ (0 ≤ V 336 l ∧ V 336 l ≤ 59) ∧ (V 337 l = 0 ∨ V 337 l = 1) ∧ (∀ p, p < ln V l → 0 ≤ V 331 (8 * l + p) ∧ V 331 (8 * l + p) ≤ 9) ∧ (∀ p q, p < ln V l → q < ln V l → V 331 (8 * l + p) = V 331 (8 * l + q) → p = q) ∧ (∀ p, p + 1 < ln V l → (1 ≤ V 332 (8 * l + p) ∧ V 332 (8 * l + p) ≤ 198) ∧ (0 ≤ V 333 (8 * l + p) ∧ V 333 (8 * l + p) ≤ 200000) ∧ (0 ≤ V 334 (8 * l + p) ∧ V 334 (8 * l + p) ≤ 16000000))
def OkN (V : Mem) : Prop := (0 ≤ V 328 9 ∧ V 328 9 ≤ 12) ∧ (1 ≤ V 328 10 ∧ V 328 10 ≤ 100) ∧ (0 ≤ V 328 11 ∧ V 328 11 ≤ 9) ∧ (0 ≤ V 328 12 ∧ V 328 12 ≤ 9999) ∧ (∀ s, s < 10 → (0 ≤ V 338 s ∧ V 338 s ≤ 9999) ∧ (V 339 s = 0 ∨ V 339 s = 1)) ∧ (∀ l, l < nn V → OkL V l)
def c0v (V : Mem) (s : Nat) : Int := if s = gl V ∧ V 339 s = 0 then 0 else -1
def offv (V : Mem) (c : Nat → Int) (l p : Nat) : Int := if V 339 (sp V l p) ≠ 0 ∨ V 328 37 = ((8 * l + p : Nat) : Int) then -1 else c (sp V l p)
def ahv (V : Mem) (c : Nat → Int) (l p : Nat) : Int := ahR (offv V c l) (tmv V l) (ln V l) (ln V l - p)
def bda (V : Mem) (c : Nat → Int) (l p : Nat) : Int := pls (tmv V l p) (ahv V c l (p + 1))
def alv (V : Mem) (c : Nat → Int) (l p : Nat) : Int := if 0 ≤ offv V c l p ∧ (bda V c l p < 0 ∨ offv V c l p ≤ bda V c l p) then 1 else 0
def plR (V : Mem) (l s : Nat) : Nat → Nat → Nat
  | 0, p => p
  | d + 1, p => if sp V l p = s then p else plR V l s d (p + 1)
def plc (V : Mem) (l s : Nat) : Nat := plR V l s (ln V l) 0
def bdv (V : Mem) (c : Nat → Int) (s l : Nat) : Int := if V 337 l ≠ 0 ∨ ln V l ≤ plc V l s + 1 ∨ V 328 37 = ((8 * l + plc V l s : Nat) : Int) then -1 else bda V c l (plc V l s)
def Tv (V : Mem) (c : Nat → Int) (s : Nat) : Int := if 10 ≤ s ∨ s = gl V ∨ V 339 s ≠ 0 then c0v V s else cst (frv V) (60 * V 328 10) (bdv V c s) (nn V)
section SPEC
variable {V : Mem} {c c' : Nat → Int} {l p s q : Nat}
theorem OkN.n (h : OkN V) : (nn V : Int) = V 328 9 ∧ nn V ≤ 12 := by unfold nn; have := h.1; omega
theorem OkN.ok (h : OkN V) (hl : l < nn V) : OkL V l := h.2.2.2.2.2 l hl
theorem OkN.len (h : OkN V) (hl : l < nn V) : (ln V l : Int) = V 330 l ∧ 2 ≤ ln V l ∧ ln V l ≤ 8 := by unfold ln; have := (h.ok hl).2.1; omega
theorem OkN.st (h : OkN V) (hl : l < nn V) (hp : p < ln V l) : (sp V l p : Int) = V 331 (8 * l + p) ∧ sp V l p < 10 := by unfold sp; have := (h.ok hl).2.2.2.2.2.1 p hp; omega
theorem OkN.go (h : OkN V) : (gl V : Int) = V 328 11 ∧ gl V < 10 := by unfold gl; have := h.2.2.1; omega
theorem OkN.fr (h : OkN V) (l : Nat) : 1 ≤ frv V l ∧ frv V l ≤ 60 := by
  unfold frv; split
  · rename_i hl; exact (h.ok hl).1
  · omega
theorem OkN.tm (h : OkN V) (l p : Nat) : 0 ≤ tmv V l p ∧ tmv V l p ≤ 219800 := by
  unfold tmv; split
  · rename_i hl; have := (h.ok hl.1).2.2.2.2.2.2.2 p hl.2; omega
  · omega
theorem OkN.tm1 (h : OkN V) (hl : l < nn V) (hp : p + 1 < ln V l) : 100 ≤ tmv V l p ∧ tmv V l p = 100 * V 332 (8 * l + p) + V 333 (8 * l + p) := by
  unfold tmv; rw [if_pos ⟨hl, hp⟩]; have := (h.ok hl).2.2.2.2.2.2.2 p hp; omega
theorem OkN.W (h : OkN V) : 0 ≤ 60 * V 328 10 ∧ 60 * V 328 10 ≤ 6000 := by have := h.2.1; omega
theorem OkN.inj (h : OkN V) (hl : l < nn V) (hp : p < ln V l) (hq : q < ln V l) (e : sp V l p = sp V l q) : p = q := by
  have h1 := h.st hl hp
  have h2 := h.st hl hq
  exact (h.ok hl).2.2.2.2.2.2.1 p q hp hq (by omega)
theorem plR_spec (V : Mem) (l s : Nat) : ∀ d p, p ≤ plR V l s d p ∧ plR V l s d p ≤ p + d ∧ (plR V l s d p < p + d → sp V l (plR V l s d p) = s) ∧ (∀ q, p ≤ q → q < plR V l s d p → sp V l q ≠ s) := by
  intro d
  induction d with
  | zero => intro p; exact ⟨Nat.le_refl _, Nat.le_refl _, fun h => absurd h (by simp [plR]), fun q h1 h2 => by simp only [plR] at h2; omega⟩
  | succ d ih =>
    intro p
    obtain ⟨i1, i2, i3, i4⟩ := ih (p + 1)
    unfold plR
    by_cases h : sp V l p = s
    · rw [if_pos h]
      exact ⟨Nat.le_refl _, by omega, fun _ => h, fun q h1 h2 => by omega⟩
    · rw [if_neg h]
      refine ⟨by omega, by omega, fun h2 => i3 (by omega), fun q h1 h2 => ?_⟩
      by_cases hq : q = p
      · rw [hq]; exact h
      · exact i4 q (by omega) h2
theorem plc_le : plc V l s ≤ ln V l := by have := (plR_spec V l s (ln V l) 0).2.1; unfold plc; omega
theorem plc_sp (h : plc V l s < ln V l) : sp V l (plc V l s) = s := (plR_spec V l s (ln V l) 0).2.2.1 (by unfold plc at h; omega)
theorem plc_no (h : p < plc V l s) : sp V l p ≠ s := (plR_spec V l s (ln V l) 0).2.2.2 p (Nat.zero_le _) h
theorem plc_at (h : OkN V) (hl : l < nn V) (hp : p < ln V l) (e : sp V l p = s) : plc V l s = p := by
  rcases Nat.lt_trichotomy (plc V l s) p with a | a | a
  · exact h.inj hl (by omega) hp (by rw [plc_sp (by omega), e])
  · exact a
  · exact absurd e (plc_no a)
theorem offv_ge (hc : ∀ s, -1 ≤ c s) (l p : Nat) : -1 ≤ offv V c l p := by
  unfold offv; split
  · omega
  · exact hc _
theorem ahv_ge (h : OkN V) (hc : ∀ s, -1 ≤ c s) (l p : Nat) : -1 ≤ ahv V c l p := ahR_ge (offv_ge hc l) (fun p => (h.tm l p).1) _
theorem bda_ge (h : OkN V) (l p : Nat) : -1 ≤ bda V c l p := pls_ge (h.tm l p).1
theorem bdv_ge (h : OkN V) (s l : Nat) : -1 ≤ bdv V c s l := by
  unfold bdv; split
  · omega
  · exact bda_ge h _ _
theorem ahv_at (hp : p < ln V l) : ahv V c l p = mnn (offv V c l p) (bda V c l p) := by
  unfold ahv
  rw [show ln V l - p = (ln V l - (p + 1)) + 1 by omega]
  simp only [ahR]
  rw [show ln V l - (ln V l - (p + 1) + 1) = p by omega]
  rfl
theorem ahv_end (hp : ln V l ≤ p) : ahv V c l p = -1 := by
  unfold ahv
  rw [show ln V l - p = 0 by omega]
  rfl
theorem ahv_al (hp : p < ln V l) : ahv V c l p = if alv V c l p = 0 then bda V c l p else offv V c l p := by
  rw [ahv_at hp]
  unfold mnn alv
  by_cases h : 0 ≤ offv V c l p ∧ (bda V c l p < 0 ∨ offv V c l p ≤ bda V c l p)
  · rw [if_pos h, if_pos h, if_neg (by omega)]
  · rw [if_neg h, if_neg h, if_pos rfl]
theorem alv_01 : alv V c l p = 0 ∨ alv V c l p = 1 := by unfold alv; split <;> simp
theorem ahR_le {off tm : Nat → Int} {m : Nat} {M : Int} (hM : -1 ≤ M) (ho : ∀ p, off p ≤ M) (ht : ∀ p, 0 ≤ tm p ∧ tm p ≤ 219800) : ∀ k : Nat, ahR off tm m k ≤ M + 219800 * (k : Int) := by
  intro k
  induction k with
  | zero => simp only [ahR]; omega
  | succ k ih =>
    simp only [ahR]
    have h1 := ho (m - (k + 1))
    have h2 := ht (m - (k + 1))
    generalize off (m - (k + 1)) = x at *
    generalize tm (m - (k + 1)) = t at *
    generalize ahR off tm m k = y at *
    have : mnn x (pls t y) ≤ M + 219800 * ((k : Int) + 1) := by
      unfold mnn pls
      split
      · omega
      · split <;> omega
    omega
theorem bda_le (h : OkN V) (hl : l < nn V) {M : Int} (hM : -1 ≤ M) (hc : ∀ s, c s ≤ M) (p : Nat) : bda V c l p ≤ M + 1770000 := by
  have h1 : ahv V c l (p + 1) ≤ M + 219800 * ((ln V l - (p + 1) : Nat) : Int) := ahR_le hM (fun p => by unfold offv; split; exact hM; exact hc _) (fun p => h.tm l p) _
  have h2 := h.tm l p
  have h3 := (h.len hl).2.2
  unfold bda pls
  split <;> omega
theorem ahv_le (h : OkN V) (hl : l < nn V) {M : Int} (hM : -1 ≤ M) (hc : ∀ s, c s ≤ M) (p : Nat) : ahv V c l p ≤ M + 1770000 := by
  have h1 : ahv V c l p ≤ M + 219800 * ((ln V l - p : Nat) : Int) := ahR_le hM (fun p => by unfold offv; split; exact hM; exact hc _) (fun p => h.tm l p) _
  have h3 := (h.len hl).2.2
  omega
theorem bdv_le (h : OkN V) (hl : l < nn V) {M : Int} (hM : -1 ≤ M) (hc : ∀ s, c s ≤ M) (s : Nat) : bdv V c s l ≤ M + 1770000 := by
  unfold bdv; split
  · omega
  · exact bda_le h hl hM hc _
theorem phi_term {fr bd : Nat → Int} {g : Int} (hf : ∀ l, 0 ≤ fr l) : ∀ n, l < n → 0 ≤ bd l → trm (fr l) (bd l) g ≤ phi fr bd g n := by
  intro n
  induction n with
  | zero => intro h; omega
  | succ n ih =>
    intro hl hb
    unfold phi
    have h2 : 0 ≤ (if bd n < 0 then 0 else trm (fr n) (bd n) g) := by split; omega; exact trm_ge (hf n)
    by_cases h : l = n
    · subst h
      have h3 : 0 ≤ phi fr bd g l := by rw [← bset_ph]; exact phL_ge hf _
      rw [if_neg (by omega)]; omega
    · have := ih (by omega) hb; omega
theorem cst_le {fr bd : Nat → Int} {W B : Int} {n : Nat} (hf : ∀ l, 1 ≤ fr l) (hW : 0 ≤ W) (hB : ∀ l, l < n → bd l ≤ B) (hB0 : -1 ≤ B) : cst fr W bd n ≤ B + W := by
  rcases cst_spec (n := n) (bd := bd) hf hW with ⟨h, _⟩ | ⟨h0, h1, h2⟩
  · omega
  · by_cases hex : ∃ l, l < n ∧ 0 ≤ bd l
    · obtain ⟨l, hl, hb⟩ := hex
      have h3 := phi_term (fr := fr) (bd := bd) (g := cst fr W bd n) (fun l => by have := hf l; omega) n hl hb
      have h4 := hf l
      have h5 := hB l hl
      have h6 : trm (fr l) (bd l) (cst fr W bd n) ≥ cst fr W bd n - bd l := by
        unfold trm
        split
        · omega
        · have : 1 * (cst fr W bd n - bd l) ≤ fr l * (cst fr W bd n - bd l) := Int.mul_le_mul_of_nonneg_right h4 (by omega)
          omega
      omega
    · have : cst fr W bd n = -1 := by
        unfold cst
        have : bset bd n = [] := bset_nil.mpr (fun l hl => by
          rcases Int.lt_or_le (bd l) 0 with a | a
          · exact a
          · exact absurd ⟨l, hl, a⟩ hex)
        rw [this]; simp [gre]
      omega
theorem Tv_le (h : OkN V) {M : Int} (hM : 0 ≤ M) (hc : ∀ s, c s ≤ M) (s : Nat) : Tv V c s ≤ M + 1780000 := by
  unfold Tv
  split
  · unfold c0v; split <;> omega
  · have := cst_le (n := nn V) (bd := bdv V c s) (B := M + 1770000) (fun l => (h.fr l).1) h.W.1 (fun l hl => bdv_le h hl (by omega) hc s) (by omega)
    have := h.W
    omega
theorem c0v_b (s : Nat) : -1 ≤ c0v V s ∧ c0v V s ≤ 0 := by unfold c0v; split <;> omega
theorem Tv_ge (h : OkN V) (s : Nat) : -1 ≤ Tv V c s := by
  unfold Tv; split
  · exact (c0v_b s).1
  · exact cst_ge (fun l => (h.fr l).1) h.W.1
theorem offv_mono (hl : ∀ s, lee (c' s) (c s)) (l p : Nat) : lee (offv V c' l p) (offv V c l p) := by
  unfold offv; split
  · exact lee_refl _
  · exact hl _
theorem bdv_mono (h : OkN V) (hc : ∀ s, -1 ≤ c s) (hl : ∀ s, lee (c' s) (c s)) (s l : Nat) : lee (bdv V c' s l) (bdv V c s l) := by
  unfold bdv; split
  · exact lee_refl _
  · exact pls_mono (h.tm l _).1 (ahR_mono (offv_ge hc l) (fun p => (h.tm l p).1) (offv_mono hl l) _)
theorem Tv_end (h : OkN V) : ∃ r, r ≤ 10 ∧ ∀ s, s < 10 → itr (Tv V) (c0v V) (r + 1) s = itr (Tv V) (c0v V) r s := by
  refine rounds_end (fun s => (c0v_b s).1) (fun c _ s => Tv_ge h s) ?_ ?_ ?_
  · intro c c' hc hc' hl s
    unfold Tv; split
    · exact lee_refl _
    · exact cst_mono (fun l => (h.fr l).1) h.W.1 (fun l _ => bdv_mono h hc hl s l)
  · intro c c' hc hc' hl s hlt
    unfold Tv at hlt ⊢
    split at hlt
    · exact absurd hlt (fun g => ltt_irrefl g (lee_refl _))
    · rename_i hs
      rw [if_neg hs]
      obtain ⟨l, hln, h1, h2⟩ := cst_local (fun l => (h.fr l).1) h.W.1 (fun l _ => bdv_mono h hc hl s l) hlt
      generalize cst (frv V) (60 * V 328 10) (bdv V c' s) (nn V) = G at h2 ⊢
      unfold bdv at h1 h2
      split at h1
      · exact absurd h1 (fun g => ltt_irrefl g (lee_refl _))
      · rename_i hb
        rw [if_neg hb] at h2
        have hge := ahv_ge h hc' l (plc V l s + 1)
        have hge2 := ahv_ge h hc l (plc V l s + 1)
        have htm := h.tm1 hln (show plc V l s + 1 < ln V l by omega)
        have h3 : ltt (ahv V c' l (plc V l s + 1)) (ahv V c l (plc V l s + 1)) := by
          unfold bda pls ltt at h1
          unfold ltt
          split at h1 <;> split at h1 <;> omega
        obtain ⟨p, hp, h4, h5⟩ := ahR_local (offv_ge hc l) (offv_ge hc' l) (fun p => (h.tm l p).1) (offv_mono hl l) _ (by omega) h3
        have h6 : offv V c' l p = c' (sp V l p) ∧ offv V c l p = c (sp V l p) := by
          unfold offv at h4 ⊢
          split at h4
          · exact absurd h4 (fun g => ltt_irrefl g (lee_refl _))
          · rename_i hq; rw [if_neg hq, if_neg hq]; exact ⟨rfl, rfl⟩
        rw [h6.1, h6.2] at h4
        refine ⟨sp V l p, (h.st hln hp).2, h4, ?_⟩
        have h7 : c' (sp V l p) ≤ ahv V c' l (plc V l s + 1) := by rw [← h6.1]; exact h5
        have h8 : 0 ≤ c' (sp V l p) := h4.1
        unfold bda pls at h2
        rw [if_neg (by omega)] at h2
        omega
  · intro s
    unfold Tv; split
    · exact lee_refl _
    · rename_i hs
      unfold c0v lee
      rw [if_neg (fun g => hs (Or.inr (Or.inl g.1)))]
      omega
/-- the first round that changes nothing -/
theorem first_of (P : Nat → Prop) : ∀ n, P n → ∃ r, r ≤ n ∧ P r ∧ ∀ q, q < r → ¬ P q := by
  intro n
  induction n using Nat.strongRecOn with
  | _ n ih =>
    intro h
    by_cases hex : ∃ m, m < n ∧ P m
    · obtain ⟨m, hm, hp⟩ := hex
      obtain ⟨r, h1, h2, h3⟩ := ih m hm hp
      exact ⟨r, by omega, h2, h3⟩
    · exact ⟨n, Nat.le_refl _, h, fun q hq hp => hex ⟨q, hq, hp⟩⟩
def Stab (T : (Nat → Int) → Nat → Int) (c0 : Nat → Int) (r : Nat) : Prop := ∀ s, s < 10 → itr T c0 (r + 1) s = itr T c0 r s
def IsR (V : Mem) (r : Nat) : Prop := r ≤ 10 ∧ Stab (Tv V) (c0v V) r ∧ ∀ q, q < r → ¬ Stab (Tv V) (c0v V) q
theorem IsR_ex (h : OkN V) : ∃ r, IsR V r := by
  obtain ⟨r, h1, h2⟩ := Tv_end h
  obtain ⟨r', h3, h4, h5⟩ := first_of (Stab (Tv V) (c0v V)) r h2
  exact ⟨r', by omega, h4, h5⟩
theorem IsR_uniq {r r' : Nat} (h : IsR V r) (h' : IsR V r') : r = r' := by
  rcases Nat.lt_trichotomy r r' with a | a | a
  · exact absurd h.2.1 (h'.2.2 r a)
  · exact a
  · exact absurd h'.2.1 (h.2.2 r' a)
noncomputable def rdv (V : Mem) : Nat := Classical.epsilon (IsR V)
theorem rv_is (h : OkN V) : IsR V (rdv V) := Classical.epsilon_spec (IsR_ex h)
/-- the costs that both come to -/
noncomputable def cv (V : Mem) (s : Nat) : Int := itr (Tv V) (c0v V) (rdv V) s
theorem itr_b (h : OkN V) : ∀ r : Nat, ∀ s, -1 ≤ itr (Tv V) (c0v V) r s ∧ itr (Tv V) (c0v V) r s ≤ 1780000 * (r : Int) := by
  intro r
  induction r with
  | zero => intro s; have := c0v_b (V := V) s; simp only [itr]; omega
  | succ r ih =>
    intro s
    have h1 := Tv_le (c := itr (Tv V) (c0v V) r) h (show 0 ≤ 1780000 * (r : Int) by omega) (fun s => (ih s).2) s
    have h2 := Tv_ge (c := itr (Tv V) (c0v V) r) h s
    simp only [itr]
    omega
theorem cv_b (h : OkN V) (s : Nat) : -1 ≤ cv V s ∧ cv V s ≤ 17800000 := by
  have h1 := itr_b h (rdv V) s
  have h2 := (rv_is h).1
  unfold cv
  omega
theorem itr_cl (V : Mem) : ∀ r s, V 339 s ≠ 0 → itr (Tv V) (c0v V) r s = -1 := by
  intro r s hs
  have h0 : c0v V s = -1 := by unfold c0v; rw [if_neg (fun g => hs g.2)]
  cases r with
  | zero => exact h0
  | succ r => simp only [itr]; unfold Tv; rw [if_pos (Or.inr (Or.inr hs))]; exact h0
theorem itr_gl (V : Mem) : ∀ r, itr (Tv V) (c0v V) r (gl V) = c0v V (gl V) := by
  intro r
  cases r with
  | zero => rfl
  | succ r => simp only [itr]; unfold Tv; rw [if_pos (Or.inr (Or.inl rfl))]
theorem cv_fix (h : OkN V) (hs : s < 10) : Tv V (cv V) s = cv V s := (rv_is h).2.1 s hs
end SPEC
