/-! ===== a halt left out: the line without it, and the line that does not halt there ===== -/
def skv (V : Mem) (l p : Nat) : Mem := fun k j => if k = 330 ∧ j = l then V 330 l - 1 else if (k = 331 ∨ k = 332 ∨ k = 333) ∧ 8 * l + p ≤ j ∧ j < 8 * l + 8 then V k (j + 1) else if (k = 332 ∨ k = 333) ∧ j + 1 = 8 * l + p then V k j + V k (j + 1) else V k j
def skw (V : Mem) (l p : Nat) : Mem := mset V 328 37 ((8 * l + p : Nat) : Int)
section SKIP
variable {V : Mem} {c : Nat → Int} {l p s q t k j l' m : Nat}
theorem skv_o (h : k < 330 ∨ 333 < k) : skv V l p k j = V k j := by unfold skv; rw [if_neg (by omega), if_neg (by omega), if_neg (by omega)]
theorem skv_h : skv V l p 330 l = V 330 l - 1 := by unfold skv; rw [if_pos ⟨rfl, rfl⟩]
theorem skv_ho (h : j ≠ l) : skv V l p 330 j = V 330 j := by unfold skv; rw [if_neg (by omega), if_neg (by omega), if_neg (by omega)]
theorem skv_a (hk : k = 331 ∨ k = 332 ∨ k = 333) (h1 : p ≤ q) (h2 : q < 8) : skv V l p k (8 * l + q) = V k (8 * l + (q + 1)) := by unfold skv; rw [if_neg (by omega), if_pos (by omega)]; rfl
theorem skv_b (hk : k = 332 ∨ k = 333) (h1 : q + 1 = p) : skv V l p k (8 * l + q) = V k (8 * l + q) + V k (8 * l + (q + 1)) := by unfold skv; rw [if_neg (by omega), if_neg (by omega), if_pos (by omega)]; rfl
theorem skv_c (hk : k = 331 ∨ k = 332 ∨ k = 333) (h1 : q < p) (h2 : k = 331 ∨ q + 1 ≠ p) : skv V l p k (8 * l + q) = V k (8 * l + q) := by unfold skv; rw [if_neg (by omega), if_neg (by omega), if_neg (by omega)]
theorem skv_l (hk : k = 331 ∨ k = 332 ∨ k = 333) (h1 : l' ≠ l) (h2 : q < 8) (h3 : 1 ≤ p ∧ p < 8) : skv V l p k (8 * l' + q) = V k (8 * l' + q) := by unfold skv; rw [if_neg (by omega), if_neg (by omega), if_neg (by omega)]
theorem sk_nn : nn (skv V l p) = nn V := by unfold nn; rw [skv_o (by omega)]
theorem sk_ln (h : OkN V) (hl : l < nn V) : ln (skv V l p) l = ln V l - 1 := by have := h.len hl; unfold ln at *; rw [skv_h]; omega
theorem sk_lno (hq : l' ≠ l) : ln (skv V l p) l' = ln V l' := by unfold ln; rw [skv_ho hq]
theorem sk_spa (h1 : p ≤ q) (h2 : q < 8) : sp (skv V l p) l q = sp V l (q + 1) := by unfold sp; rw [skv_a (by omega) h1 h2]
theorem sk_spc (h1 : q < p) : sp (skv V l p) l q = sp V l q := by unfold sp; rw [skv_c (by omega) h1 (by omega)]
theorem sk_spo (h : l' ≠ l) (h8 : q < 8) (h3 : 1 ≤ p ∧ p < 8) : sp (skv V l p) l' q = sp V l' q := by unfold sp; rw [skv_l (by omega) h h8 h3]
theorem sk_tma (h : OkN V) (hl : l < nn V) (h1 : p ≤ q) : tmv (skv V l p) l q = tmv V l (q + 1) := by
  have hn := h.len hl
  unfold tmv
  rw [sk_nn, sk_ln h hl]
  by_cases g : q + 1 + 1 < ln V l
  · rw [if_pos ⟨hl, by omega⟩, if_pos ⟨hl, g⟩, skv_a (by omega) h1 (by omega), skv_a (by omega) h1 (by omega)]
  · rw [if_neg (by omega), if_neg (by omega)]
theorem sk_tmb (h : OkN V) (hl : l < nn V) (h1 : q + 1 = p) (h2 : p + 1 < ln V l) : tmv (skv V l p) l q = tmv V l q + tmv V l (q + 1) := by
  unfold tmv
  rw [sk_nn, sk_ln h hl, if_pos (by omega), if_pos (by omega), if_pos (by omega), skv_b (by omega) h1, skv_b (by omega) h1]
  omega
theorem sk_tmc (h : OkN V) (hl : l < nn V) (h1 : q + 1 < p) (h2 : p + 1 < ln V l) : tmv (skv V l p) l q = tmv V l q := by
  unfold tmv
  rw [sk_nn, sk_ln h hl, if_pos (by omega), if_pos (by omega), skv_c (by omega) (by omega) (by omega), skv_c (by omega) (by omega) (by omega)]
theorem sk_tmo (h : OkN V) (h1 : l' ≠ l) (h3 : 1 ≤ p ∧ p < 8) : tmv (skv V l p) l' q = tmv V l' q := by
  unfold tmv
  rw [sk_nn, sk_lno h1]
  by_cases g : l' < nn V ∧ q + 1 < ln V l'
  · have := h.len g.1
    rw [if_pos g, if_pos g, skv_l (by omega) h1 (by omega) h3, skv_l (by omega) h1 (by omega) h3]
  · rw [if_neg g, if_neg g]
theorem skw_o (h : ¬ (k = 328 ∧ j = 37)) : skw V l p k j = V k j := by unfold skw; rw [mset_eq, if_neg h]
theorem skw_37 : skw V l p 328 37 = ((8 * l + p : Nat) : Int) := ms_eq _ _ _ _
theorem skw_nn : nn (skw V l p) = nn V := by unfold nn; rw [skw_o (by omega)]
theorem skw_ln : ln (skw V l p) l' = ln V l' := by unfold ln; rw [skw_o (by omega)]
theorem skw_sp : sp (skw V l p) l' q = sp V l' q := by unfold sp; rw [skw_o (by omega)]
theorem skw_tm : tmv (skw V l p) l' q = tmv V l' q := by unfold tmv; rw [skw_nn, skw_ln, skw_o (by omega), skw_o (by omega)]
theorem skw_plR : ∀ d q, plR (skw V l p) l' s d q = plR V l' s d q := by
  intro d
  induction d with
  | zero => intro q; rfl
  | succ d ih => intro q; unfold plR; rw [skw_sp, ih]
theorem skw_pl : plc (skw V l p) l' s = plc V l' s := by unfold plc; rw [skw_ln, skw_plR]
theorem sk_plR (h1 : l' ≠ l) (h3 : 1 ≤ p ∧ p < 8) : ∀ d q, q + d ≤ 8 → plR (skv V l p) l' s d q = plR V l' s d q := by
  intro d
  induction d with
  | zero => intro q _; rfl
  | succ d ih => intro q hq; unfold plR; rw [sk_spo h1 (by omega) h3, ih (q + 1) (by omega)]
theorem skw_ok (h : OkN V) : OkN (skw V l p) := by
  obtain ⟨o1, o2, o3, o4, o5, o6⟩ := h
  refine ⟨by rw [skw_o (by omega)]; exact o1, by rw [skw_o (by omega)]; exact o2, by rw [skw_o (by omega)]; exact o3, by rw [skw_o (by omega)]; exact o4, fun s hs => by rw [skw_o (by omega), skw_o (by omega)]; exact o5 s hs, fun l' hl => ?_⟩
  rw [skw_nn] at hl
  have g := o6 l' hl
  unfold OkL at g ⊢
  rw [skw_ln]
  have e : ∀ k j, 329 ≤ k → skw V l p k j = V k j := fun k j hk => skw_o (by omega)
  simp only [e 329 _ (by omega), e 330 _ (by omega), e 331 _ (by omega), e 332 _ (by omega), e 333 _ (by omega), e 334 _ (by omega), e 335 _ (by omega), e 336 _ (by omega), e 337 _ (by omega)]
  exact g
theorem sk_ok (h : OkN V) (hst : StN V) (hl : l < nn V) (h0 : 1 ≤ p) (hp : p + 1 < ln V l) : OkN (skv V l p) := by
  have hn := h.len hl
  have hh := h
  obtain ⟨o1, o2, o3, o4, o5, o6⟩ := hh
  refine ⟨by rw [skv_o (by omega)]; exact o1, by rw [skv_o (by omega)]; exact o2, by rw [skv_o (by omega)]; exact o3, by rw [skv_o (by omega)]; exact o4, fun s hs => by rw [skv_o (by omega), skv_o (by omega)]; exact o5 s hs, fun l' hl' => ?_⟩
  rw [sk_nn] at hl'
  have hn' := h.len hl'
  by_cases e : l' = l
  · rw [e]
    obtain ⟨p1, p2, p3, p4, p5, p6, p7, p8⟩ := o6 l hl
    refine ⟨by rw [skv_o (by omega)]; exact p1, by rw [skv_h]; omega, by rw [skv_o (by omega)]; exact p3, by rw [skv_o (by omega)]; exact p4, by rw [skv_o (by omega)]; exact p5, fun q hq => ?_, fun q r hq hr => ?_, fun q hq => ?_⟩
    · rw [sk_ln h hl] at hq
      by_cases g : p ≤ q
      · rw [skv_a (by omega) g (by omega)]; exact p6 (q + 1) (by omega)
      · rw [skv_c (by omega) (by omega) (by omega)]; exact p6 q (by omega)
    · rw [sk_ln h hl] at hq hr
      by_cases g : p ≤ q
      · by_cases g2 : p ≤ r
        · rw [skv_a (by omega) g (by omega), skv_a (by omega) g2 (by omega)]
          intro e; have := p7 (q + 1) (r + 1) (by omega) (by omega) e; omega
        · rw [skv_a (by omega) g (by omega), skv_c (by omega) (by omega) (by omega)]
          intro e; have := p7 (q + 1) r (by omega) (by omega) e; omega
      · by_cases g2 : p ≤ r
        · rw [skv_c (by omega) (by omega) (by omega), skv_a (by omega) g2 (by omega)]
          intro e; have := p7 q (r + 1) (by omega) (by omega) e; omega
        · rw [skv_c (by omega) (by omega) (by omega), skv_c (by omega) (by omega) (by omega)]
          intro e; exact p7 q r (by omega) (by omega) e
    · rw [sk_ln h hl] at hq
      have x1 := p8 q (by omega)
      have x2 := p8 (q + 1) (by omega)
      have y1 := hst l hl q (by omega)
      have y2 := hst l hl (q + 1) (by omega)
      rw [skv_o (k := 334) (by omega)]
      by_cases g : p ≤ q
      · rw [skv_a (by omega) g (by omega), skv_a (by omega) g (by omega)]; omega
      · by_cases g2 : q + 1 = p
        · rw [skv_b (by omega) g2, skv_b (by omega) g2]; omega
        · rw [skv_c (by omega) (by omega) (by omega), skv_c (by omega) (by omega) (by omega)]; omega
  · obtain ⟨p1, p2, p3, p4, p5, p6, p7, p8⟩ := o6 l' hl'
    refine ⟨by rw [skv_o (by omega)]; exact p1, by rw [skv_ho e]; exact p2, by rw [skv_o (by omega)]; exact p3, by rw [skv_o (by omega)]; exact p4, by rw [skv_o (by omega)]; exact p5, fun q hq => ?_, fun q r hq hr => ?_, fun q hq => ?_⟩
    · rw [sk_lno e] at hq; rw [skv_l (by omega) e (by omega) (by omega)]; exact p6 q hq
    · rw [sk_lno e] at hq hr; rw [skv_l (by omega) e (by omega) (by omega), skv_l (by omega) e (by omega) (by omega)]; exact p7 q r hq hr
    · rw [sk_lno e] at hq; rw [skv_l (by omega) e (by omega) (by omega), skv_l (by omega) e (by omega) (by omega), skv_o (by omega)]; exact p8 q hq
theorem sk_offa (h37 : V 328 37 = -1) (h1 : p ≤ q) (h2 : q < 8) : offv (skv V l p) c l q = offv (skw V l p) c l (q + 1) := by
  unfold offv
  rw [sk_spa h1 h2, skw_sp, skv_o (by omega), skv_o (by omega), skw_o (by omega), skw_37, h37]
  by_cases g : V 339 (sp V l (q + 1)) ≠ 0
  · rw [if_pos (Or.inl g), if_pos (Or.inl g)]
  · rw [if_neg (by omega), if_neg (by omega)]
theorem sk_offc (h37 : V 328 37 = -1) (h1 : q < p) : offv (skv V l p) c l q = offv (skw V l p) c l q := by
  unfold offv
  rw [sk_spc h1, skw_sp, skv_o (by omega), skv_o (by omega), skw_o (by omega), skw_37, h37]
  by_cases g : V 339 (sp V l q) ≠ 0
  · rw [if_pos (Or.inl g), if_pos (Or.inl g)]
  · rw [if_neg (by omega), if_neg (by omega)]
theorem sk_offo (h37 : V 328 37 = -1) (h1 : l' ≠ l) (h2 : q < 8) (h3 : 1 ≤ p ∧ p < 8) : offv (skv V l p) c l' q = offv (skw V l p) c l' q := by
  unfold offv
  rw [sk_spo h1 h2 h3, skw_sp, skv_o (by omega), skv_o (by omega), skw_o (by omega), skw_37, h37]
  by_cases g : V 339 (sp V l' q) ≠ 0
  · rw [if_pos (Or.inl g), if_pos (Or.inl g)]
  · rw [if_neg (by omega), if_neg (by omega)]
theorem sk_ahA (h : OkN V) (h37 : V 328 37 = -1) (hl : l < nn V) : ∀ d q, q + d = ln V l - 1 → p ≤ q → ahv (skv V l p) c l q = ahv (skw V l p) c l (q + 1) := by
  have hn := h.len hl
  intro d
  induction d with
  | zero =>
    intro q h1 h2
    rw [ahv_end (by rw [sk_ln h hl]; omega), ahv_end (by rw [skw_ln]; omega)]
  | succ d ih =>
    intro q h1 h2
    rw [ahv_at (by rw [sk_ln h hl]; omega), ahv_at (by rw [skw_ln]; omega), sk_offa h37 h2 (by omega)]
    unfold bda
    rw [sk_tma h hl h2, skw_tm, ih (q + 1) (by omega) (by omega)]
theorem pls_pls {a b x : Int} (ha : 0 ≤ a) (hb : 0 ≤ b) : pls (a + b) x = pls a (pls b x) := by
  unfold pls
  by_cases g : x < 0
  · rw [if_pos g, if_pos g, if_pos (by omega)]
  · rw [if_neg g, if_neg g, if_neg (by omega)]; omega
theorem sk_bdB (h : OkN V) (h37 : V 328 37 = -1) (hl : l < nn V) (hp : p + 1 < ln V l) : ∀ d q, q + d + 1 = p → bda (skv V l p) c l q = bda (skw V l p) c l q := by
  have hn := h.len hl
  intro d
  induction d with
  | zero =>
    intro q h1
    have h1 : q + 1 = p := by omega
    have e2 : ahv (skw V l p) c l (q + 1) = pls (tmv V l (q + 1)) (ahv (skw V l p) c l (p + 1)) := by
      rw [ahv_at (by rw [skw_ln]; omega)]
      have eo : offv (skw V l p) c l (q + 1) = -1 := by
        unfold offv
        rw [skw_37, if_pos (Or.inr (by rw [h1]))]
      rw [eo]
      unfold mnn bda
      rw [if_neg (by omega), skw_tm, h1]
    unfold bda
    rw [e2, sk_tmb h hl h1 hp, skw_tm, pls_pls (h.tm l q).1 (h.tm l (q + 1)).1, h1, sk_ahA h h37 hl (ln V l - 1 - p) p (by omega) (Nat.le_refl _)]
  | succ d ih =>
    intro q h1
    have e2 : ahv (skv V l p) c l (q + 1) = ahv (skw V l p) c l (q + 1) := by
      rw [ahv_at (by rw [sk_ln h hl]; omega), ahv_at (by rw [skw_ln]; omega), sk_offc h37 (by omega), ih (q + 1) (by omega)]
    have e3 : tmv (skv V l p) l q = tmv (skw V l p) l q := by rw [sk_tmc h hl (by omega) hp, skw_tm]
    show pls (tmv (skv V l p) l q) (ahv (skv V l p) c l (q + 1)) = pls (tmv (skw V l p) l q) (ahv (skw V l p) c l (q + 1))
    rw [e2, e3]
theorem sk_bdA (h : OkN V) (h37 : V 328 37 = -1) (hl : l < nn V) (h1 : p ≤ q) (h2 : q + 1 < ln V l) : bda (skv V l p) c l q = bda (skw V l p) c l (q + 1) := by
  unfold bda
  rw [sk_tma h hl h1, skw_tm, sk_ahA h h37 hl (ln V l - 1 - (q + 1)) (q + 1) (by omega) (by omega)]
theorem sk_ahO (h : OkN V) (h37 : V 328 37 = -1) (h1 : l' ≠ l) (hl' : l' < nn V) (h3 : 1 ≤ p ∧ p < 8) : ∀ d q, q + d = ln V l' → ahv (skv V l p) c l' q = ahv (skw V l p) c l' q := by
  have hn := h.len hl'
  intro d
  induction d with
  | zero => intro q hq; rw [ahv_end (by rw [sk_lno h1]; omega), ahv_end (by rw [skw_ln]; omega)]
  | succ d ih =>
    intro q hq
    rw [ahv_at (by rw [sk_lno h1]; omega), ahv_at (by rw [skw_ln]; omega), sk_offo h37 h1 (by omega) h3]
    unfold bda
    rw [sk_tmo h h1 h3, skw_tm, ih (q + 1) (by omega)]
theorem sk_bdv (h : OkN V) (hst : StN V) (h37 : V 328 37 = -1) (hl : l < nn V) (h0 : 1 ≤ p) (hp : p + 1 < ln V l) (hl' : l' < nn V) : bdv (skv V l p) c s l' = bdv (skw V l p) c s l' := by
  have hn := h.len hl
  have hn' := h.len hl'
  have ok1 := sk_ok h hst hl h0 hp
  by_cases e : l' = l
  · rw [e]
    have hP2 := plc_le (V := V) (l := l) (s := s)
    have hP1 := plc_le (V := skv V l p) (l := l) (s := s)
    have ln1 := sk_ln (p := p) h hl
    rw [ln1] at hP1
    have hl1 : l < nn (skv V l p) := by rw [sk_nn]; exact hl
    unfold bdv
    rw [skv_o (k := 337) (by omega), skv_o (k := 328) (by omega), skw_o (k := 337) (by omega), skw_37, ln1, skw_ln, skw_pl, h37]
    by_cases g0 : V 337 l ≠ 0
    · rw [if_pos (Or.inl g0), if_pos (Or.inl g0)]
    · rcases Nat.lt_or_ge (plc (skv V l p) l s) (ln V l - 1) with g | g
      · have hs := plc_sp (V := skv V l p) (l := l) (s := s) (by rw [ln1]; exact g)
        rcases Nat.lt_or_ge (plc (skv V l p) l s) p with g1 | g1
        · rw [sk_spc g1] at hs
          have hpl := plc_at h hl (by omega) hs
          rw [hpl]
          rw [if_neg (by omega), if_neg (by omega)]
          exact sk_bdB h h37 hl hp (p - 1 - plc (skv V l p) l s) _ (by omega)
        · rw [sk_spa g1 (by omega)] at hs
          have hpl := plc_at h hl (by omega) hs
          rw [hpl]
          by_cases g2 : ln V l - 1 ≤ plc (skv V l p) l s + 1
          · rw [if_pos (by omega), if_pos (by omega)]
          · rw [if_neg (by omega), if_neg (by omega)]
            exact sk_bdA h h37 hl g1 (by omega)
      · rw [if_pos (by omega)]
        by_cases g1 : ln V l ≤ plc V l s + 1 ∨ plc V l s = p
        · rw [if_pos (by omega)]
        · exfalso
          have hs := plc_sp (V := V) (l := l) (s := s) (by omega)
          rcases Nat.lt_or_ge (plc V l s) p with g2 | g2
          · have := plc_at ok1 hl1 (p := plc V l s) (s := s) (by rw [ln1]; omega) (by rw [sk_spc g2]; exact hs)
            omega
          · have := plc_at ok1 hl1 (p := plc V l s - 1) (s := s) (by rw [ln1]; omega) (by rw [sk_spa (by omega) (by omega), show plc V l s - 1 + 1 = plc V l s by omega]; exact hs)
            omega
  · have h3 : 1 ≤ p ∧ p < 8 := by omega
    have hpl : plc (skv V l p) l' s = plc V l' s := by unfold plc; rw [sk_lno e, sk_plR e h3 _ _ (by omega)]
    unfold bdv
    rw [hpl, skw_pl, skv_o (k := 337) (by omega), skv_o (k := 328) (by omega), skw_o (k := 337) (by omega), skw_37, sk_lno e, skw_ln, h37]
    by_cases g0 : V 337 l' ≠ 0 ∨ ln V l' ≤ plc V l' s + 1
    · rw [if_pos (by omega), if_pos (by omega)]
    · rw [if_neg (by omega), if_neg (by omega)]
      unfold bda
      rw [sk_tmo h e h3, skw_tm, sk_ahO h h37 e hl' h3 (ln V l' - (plc V l' s + 1)) _ (by omega)]
theorem sk_c0 : c0v (skv V l p) = c0v V ∧ c0v (skw V l p) = c0v V := by
  refine ⟨funext fun s => ?_, funext fun s => ?_⟩
  · unfold c0v gl; rw [skv_o (by omega), skv_o (by omega)]
  · unfold c0v gl; rw [skw_o (by omega), skw_o (by omega)]
theorem sk_T (h : OkN V) (hst : StN V) (h37 : V 328 37 = -1) (hl : l < nn V) (h0 : 1 ≤ p) (hp : p + 1 < ln V l) : Tv (skv V l p) = Tv (skw V l p) := by
  funext c s
  have ok1 := sk_ok h hst hl h0 hp
  have ok2 := skw_ok (l := l) (p := p) h
  have eg1 : gl (skv V l p) = gl V := by unfold gl; rw [skv_o (by omega)]
  have eg2 : gl (skw V l p) = gl V := by unfold gl; rw [skw_o (by omega)]
  have ef : frv (skw V l p) = frv (skv V l p) := funext fun i => by unfold frv; rw [sk_nn, skw_nn, skv_o (by omega), skw_o (by omega)]
  have hW := ok1.W
  unfold Tv
  rw [eg1, eg2, sk_c0.1, sk_c0.2, sk_nn, skw_nn, ef, skv_o (k := 339) (by omega), skw_o (k := 339) (by omega), skw_o (k := 328) (by omega)]
  rw [skv_o (k := 328) (by omega)] at hW ⊢
  by_cases g : 10 ≤ s ∨ s = gl V ∨ V 339 s ≠ 0
  · rw [if_pos g, if_pos g]
  · rw [if_neg g, if_neg g]
    have hb : ∀ i, i < nn V → bdv (skv V l p) c s i = bdv (skw V l p) c s i := fun i hi => sk_bdv h hst h37 hl h0 hp hi
    have hf : ∀ i, 1 ≤ frv (skv V l p) i := fun i => (ok1.fr i).1
    have a1 := cst_mono (n := nn V) (bd := bdv (skv V l p) c s) (bd' := bdv (skw V l p) c s) hf hW.1 (fun i hi => by rw [hb i hi]; exact lee_refl _)
    have a2 := cst_mono (n := nn V) (bd := bdv (skw V l p) c s) (bd' := bdv (skv V l p) c s) hf hW.1 (fun i hi => by rw [hb i hi]; exact lee_refl _)
    have b1 := cst_ge (n := nn V) (bd := bdv (skv V l p) c s) hf hW.1
    have b2 := cst_ge (n := nn V) (bd := bdv (skw V l p) c s) hf hW.1
    unfold lee at a1 a2
    omega
theorem sk_cv (h : OkN V) (hst : StN V) (h37 : V 328 37 = -1) (hl : l < nn V) (h0 : 1 ≤ p) (hp : p + 1 < ln V l) : totv (skv V l p) = totv (skw V l p) ∧ strv (skv V l p) = strv (skw V l p) := by
  have eT := sk_T h hst h37 hl h0 hp
  have ec : c0v (skv V l p) = c0v (skw V l p) := sk_c0.1.trans sk_c0.2.symm
  have eI : IsR (skv V l p) = IsR (skw V l p) := funext fun r => by unfold IsR; rw [eT, ec]
  have er : rdv (skv V l p) = rdv (skw V l p) := by unfold rdv; rw [eI]
  have ev : cv (skv V l p) = cv (skw V l p) := funext fun s => by unfold cv; rw [eT, ec, er]
  have et : tt1 (skv V l p) = tt1 (skw V l p) := funext fun s => by unfold tt1; rw [ev, skv_o (by omega), skw_o (by omega)]
  have es : ss1 (skv V l p) = ss1 (skw V l p) := funext fun s => by unfold ss1 gl; rw [ev, skv_o (by omega), skw_o (by omega), skv_o (by omega), skw_o (by omega)]
  exact ⟨by unfold totv; rw [et], by unfold strv; rw [es]⟩
end SKIP
