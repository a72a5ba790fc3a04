/-! ===== settled once ===== -/
def avj (V X : Mem) (j : Nat) : Int := V 334 j + (X 356 j - V 334 j).tdiv (V 328 13 + 1)
def exj (V X : Mem) (j : Nat) : Int := if V 328 12 * avj V X j / (V 335 (j / 8) * V 329 (j / 8)) ≤ 100000 then V 328 12 * avj V X j / (V 335 (j / 8) * V 329 (j / 8)) else 100000
def abv (x : Int) : Int := if 0 ≤ x then x else -x
abbrev stp (V : Mem) (l p j : Nat) : Prop := (j / 8 < l ∨ (j / 8 = l ∧ j % 8 < p)) ∧ j / 8 < nn V ∧ j % 8 + 1 < ln V (j / 8)
def savp (V X : Mem) (l p : Nat) : Mem := fun k j => if k = 334 then (if stp V l p j then avj V X j else V 334 j) else if k = 333 then (if stp V l p j then exj V X j else V 333 j) else if k = 328 ∧ j = 13 then V 328 13 + 1 else V k j
def gp1 (V X : Mem) (l p : Nat) : Int := abv (X 356 (8 * l + p) - V 334 (8 * l + p))
def gpS (V X : Mem) : Nat → Int
  | 0 => 0
  | l + 1 => gpS V X l + smf (gp1 V X l) (ln V l - 1)
noncomputable def sav (V : Mem) : Mem := savp V (ldv V) (nn V) 0
noncomputable def gapv (V : Mem) : Int := gpS V (ldv V) (nn V)
def FrE (σ σ' : Mem) : Prop := ∀ k j, (4 ≤ k ∧ k < 136 ∧ ((k - 4) % 11 = 3 ∨ (k - 4) % 11 = 4)) ∨ (138 ≤ k ∧ k < 270 ∧ ((k - 138) % 11 = 3 ∨ (k - 138) % 11 = 4)) ∨ σ' k j = σ k j
section SETTLE
variable {V V' σ σ' X : Mem} {c rid : Nat → Int} {t k j l p s P fu : Nat} {a b v r : Int}
theorem tdiv_mid {a x k : Int} (hk : 1 ≤ k) : (a ≤ x → a ≤ a + (x - a).tdiv k ∧ a + (x - a).tdiv k ≤ x) ∧ (x ≤ a → x ≤ a + (x - a).tdiv k ∧ a + (x - a).tdiv k ≤ a) := by
  constructor
  · intro h
    rw [Int.tdiv_eq_ediv_of_nonneg (by omega)]
    have h1 : 0 ≤ (x - a) / k := Int.ediv_nonneg (by omega) (by omega)
    have h2 : (x - a) / k ≤ x - a := Int.ediv_le_self _ (by omega)
    omega
  · intro h
    have e : x - a = -(a - x) := by omega
    rw [e, Int.neg_tdiv, Int.tdiv_eq_ediv_of_nonneg (by omega)]
    have h1 : 0 ≤ (a - x) / k := Int.ediv_nonneg (by omega) (by omega)
    have h2 : (a - x) / k ≤ a - x := Int.ediv_le_self _ (by omega)
    omega
theorem avj_b (h13 : 0 ≤ V 328 13) (hX : 0 ≤ X 356 j ∧ X 356 j ≤ 10230000) (hV : 0 ≤ V 334 j ∧ V 334 j ≤ 16000000) : 0 ≤ avj V X j ∧ avj V X j ≤ 16000000 := by
  have h := tdiv_mid (a := V 334 j) (x := X 356 j) (k := V 328 13 + 1) (by omega)
  unfold avj
  rcases Int.le_total (V 334 j) (X 356 j) with g | g
  · have := h.1 g; omega
  · have := h.2 g; omega
theorem exj_b (h12 : 0 ≤ V 328 12) (ha : 0 ≤ avj V X j) (hd : 1 ≤ V 335 (j / 8) * V 329 (j / 8)) : 0 ≤ exj V X j ∧ exj V X j ≤ 100000 := by
  have h1 : 0 ≤ V 328 12 * avj V X j / (V 335 (j / 8) * V 329 (j / 8)) := Int.ediv_nonneg (Int.mul_nonneg h12 ha) (by omega)
  unfold exj
  split <;> omega
theorem savp_334 : savp V X l p 334 j = if stp V l p j then avj V X j else V 334 j := rfl
theorem savp_333 : savp V X l p 333 j = if stp V l p j then exj V X j else V 333 j := rfl
theorem savp_at (h : ¬ (k = 334 ∨ k = 333)) (h2 : ¬ (k = 328 ∧ j = 13)) : savp V X l p k j = V k j := by
  unfold savp; rw [if_neg (by omega), if_neg (by omega), if_neg h2]
theorem savp_13 : savp V X l p 328 13 = V 328 13 + 1 := by
  unfold savp; rw [if_neg (by omega), if_neg (by omega), if_pos ⟨rfl, rfl⟩]
theorem savp_nn : nn (savp V X l p) = nn V := by unfold nn; rw [savp_at (by omega) (by omega)]
theorem savp_ln (m : Nat) : ln (savp V X l p) m = ln V m := by unfold ln; rw [savp_at (by omega) (by omega)]
theorem savp_00 : savp V X 0 0 = mset V 328 13 (V 328 13 + 1) := by
  funext k j
  rw [mset_eq]
  by_cases k1 : k = 334
  · rw [k1, savp_334, if_neg (by omega), if_neg (by omega)]
  · by_cases k2 : k = 333
    · rw [k2, savp_333, if_neg (by omega), if_neg (by omega)]
    · by_cases g : k = 328 ∧ j = 13
      · rw [if_pos g, g.1, g.2, savp_13]
      · rw [if_neg g, savp_at (by omega) g]
theorem stp_step (ok : OkN V) (hl : l < nn V) (hp : p + 1 < ln V l) (j : Nat) : stp V l (p + 1) j ↔ (stp V l p j ∨ j = 8 * l + p) := by
  have h8 := ok.len hl
  constructor
  · intro g
    by_cases e : j = 8 * l + p
    · exact Or.inr e
    · left; omega
  · intro g
    rcases g with g | g
    · omega
    · have e1 : j / 8 = l := by omega
      have e2 : j % 8 = p := by omega
      unfold stp
      rw [e1, e2]
      omega
theorem savp_step (ok : OkN V) (hl : l < nn V) (hp : p + 1 < ln V l) : savp V X l (p + 1) = mset (mset (savp V X l p) 334 (8 * l + p) (avj V X (8 * l + p))) 333 (8 * l + p) (exj V X (8 * l + p)) := by
  have hst := stp_step ok hl hp
  funext k j
  rw [mset_eq, mset_eq]
  by_cases k1 : k = 334
  · subst k1
    rw [if_neg (by omega), savp_334, savp_334]
    by_cases e : j = 8 * l + p
    · rw [if_pos ((hst j).mpr (Or.inr e)), if_pos ⟨rfl, e⟩, e]
    · rw [if_neg (show ¬ (334 = 334 ∧ j = 8 * l + p) by omega)]
      by_cases g : stp V l p j
      · rw [if_pos g, if_pos ((hst j).mpr (Or.inl g))]
      · rw [if_neg g, if_neg (fun q => by rcases (hst j).mp q with q | q; exact g q; exact e q)]
  · by_cases k2 : k = 333
    · subst k2
      rw [savp_333]
      by_cases e : j = 8 * l + p
      · rw [if_pos ((hst j).mpr (Or.inr e)), if_pos ⟨rfl, e⟩, e]
      · rw [if_neg (show ¬ (333 = 333 ∧ j = 8 * l + p) by omega), if_neg (show ¬ (333 = 334 ∧ j = 8 * l + p) by omega), savp_333]
        by_cases g : stp V l p j
        · rw [if_pos g, if_pos ((hst j).mpr (Or.inl g))]
        · rw [if_neg g, if_neg (fun q => by rcases (hst j).mp q with q | q; exact g q; exact e q)]
    · rw [if_neg (by omega), if_neg (by omega)]
      by_cases g : k = 328 ∧ j = 13
      · rw [g.1, g.2, savp_13, savp_13]
      · rw [savp_at (by omega) g, savp_at (by omega) g]
theorem stp_next (ok : OkN V) (hl : l < nn V) (j : Nat) : stp V l (ln V l - 1) j ↔ stp V (l + 1) 0 j := by
  have h8 := ok.len hl
  by_cases e : j / 8 = l
  · have e2 : ln V (j / 8) = ln V l := by rw [e]
    constructor <;> (intro g; omega)
  · constructor <;> (intro g; omega)
theorem savp_next (ok : OkN V) (hl : l < nn V) : savp V X l (ln V l - 1) = savp V X (l + 1) 0 := by
  have hst := stp_next ok hl
  funext k j
  by_cases k1 : k = 334
  · subst k1
    rw [savp_334, savp_334]
    by_cases g : stp V l (ln V l - 1) j
    · rw [if_pos g, if_pos ((hst j).mp g)]
    · rw [if_neg g, if_neg (fun q => g ((hst j).mpr q))]
  · by_cases k2 : k = 333
    · subst k2
      rw [savp_333, savp_333]
      by_cases g : stp V l (ln V l - 1) j
      · rw [if_pos g, if_pos ((hst j).mp g)]
      · rw [if_neg g, if_neg (fun q => g ((hst j).mpr q))]
    · by_cases g : k = 328 ∧ j = 13
      · rw [g.1, g.2, savp_13, savp_13]
      · rw [savp_at (by omega) g, savp_at (by omega) g]
theorem savp_here (hp : p < 8) : savp V X l p 334 (8 * l + p) = V 334 (8 * l + p) := by
  rw [savp_334, if_neg (by omega)]
theorem div_fs (ok : OkN V) (hl : l < nn V) : 1 ≤ V 335 l * V 329 l ∧ V 335 l * V 329 l ≤ 59940 := by
  have h := ok.ok hl
  have h1 := h.1
  have h2 := h.2.2.1
  have a1 : 1 * V 329 l ≤ V 335 l * V 329 l := Int.mul_le_mul_of_nonneg_right h2.1 (by omega)
  have a2 : V 335 l * V 329 l ≤ 999 * V 329 l := Int.mul_le_mul_of_nonneg_right h2.2 (by omega)
  omega
theorem savp_ok (ok : OkN V) (h13 : 0 ≤ V 328 13) (hX : ∀ j, 0 ≤ X 356 j ∧ X 356 j ≤ 10230000) (l p : Nat) : OkN (savp V X l p) := by
  obtain ⟨o1, o2, o3, o4, o5, o6⟩ := id ok
  refine ⟨by rw [savp_at (by omega) (by omega)]; exact o1, by rw [savp_at (by omega) (by omega)]; exact o2, by rw [savp_at (by omega) (by omega)]; exact o3, by rw [savp_at (by omega) (by omega)]; exact o4, fun s hs => by rw [savp_at (by omega) (by omega), savp_at (by omega) (by omega)]; exact o5 s hs, fun m hm => ?_⟩
  rw [savp_nn] at hm
  have hx := o6 m hm
  have h8 := ok.len hm
  unfold OkL at hx ⊢
  rw [savp_ln]
  simp (disch := omega) only [savp_at]
  refine ⟨hx.1, hx.2.1, hx.2.2.1, hx.2.2.2.1, hx.2.2.2.2.1, hx.2.2.2.2.2.1, hx.2.2.2.2.2.2.1, fun q hq => ?_⟩
  have hq2 := hx.2.2.2.2.2.2.2 q hq
  have e1 : (8 * m + q) / 8 = m := by omega
  have hav := avj_b (V := V) (X := X) (j := 8 * m + q) h13 (hX _) hq2.2.2
  have hex := exj_b (V := V) (X := X) (j := 8 * m + q) o4.1 hav.1 (by rw [e1]; exact (div_fs ok hm).1)
  refine ⟨hq2.1, ?_, ?_⟩
  · rw [savp_333]
    split
    · omega
    · exact hq2.2.1
  · rw [savp_334]
    split
    · exact hav
    · exact hq2.2.2
theorem savp_st (ok : OkN V) (st : StN V) (h13 : 0 ≤ V 328 13) (hX : ∀ j, 0 ≤ X 356 j ∧ X 356 j ≤ 10230000) (l p : Nat) : StN (savp V X l p) := by
  intro m hm q hq
  rw [savp_nn] at hm
  rw [savp_ln] at hq
  have h8 := ok.len hm
  have hx := st m hm q hq
  have hq2 := (ok.ok hm).2.2.2.2.2.2.2 q hq
  have e1 : (8 * m + q) / 8 = m := by omega
  have hav := avj_b (V := V) (X := X) (j := 8 * m + q) h13 (hX _) hq2.2.2
  have hex := exj_b (V := V) (X := X) (j := 8 * m + q) ok.2.2.2.1.1 hav.1 (by rw [e1]; exact (div_fs ok hm).1)
  refine ⟨by rw [savp_at (by omega) (by omega)]; exact hx.1, ?_⟩
  rw [savp_333]
  split
  · exact hex.2
  · exact hx.2
theorem cls_set34 (h : Cls V σ) (ok : OkN V) (hl : l < nn V) (hp : p + 1 < ln V l) : Cls (mset (mset V 334 (8 * l + p) a) 333 (8 * l + p) b) (mset (mset σ (PL σ l + 4) p a) (PL σ l + 3) p b) := by
  have hap : ∀ m, m < nn V → m ≠ l → PL σ m + 10 < PL σ l ∨ PL σ l + 10 < PL σ m := fun m hm e => h.apart ok hm hl e
  have hPl := h.isL ok hl
  have h8 := ok.len hl
  obtain ⟨h1, h2, h3, h4, h5, h6, h7, h9⟩ := h
  obtain ⟨t1, t2, t3⟩ := tab_mv h1 (σ' := mset (mset σ (PL σ l + 4) p a) (PL σ l + 3) p b) (by rw [ms_k (by omega), ms_k (by omega)]) (by rw [ms_k (by omega), ms_k (by omega)]) (fun j => by rw [ms_k (by omega), ms_k (by omega)]) (fun j => by rw [ms_k (by omega), ms_k (by omega)])
  have hnn : nn (mset (mset V 334 (8 * l + p) a) 333 (8 * l + p) b) = nn V := by unfold nn; rw [ms_k (by omega), ms_k (by omega)]
  refine ⟨t1, by simp (disch := omega) only [ms_k]; exact h2, by simp (disch := omega) only [ms_k]; exact h3, by simp (disch := omega) only [ms_k]; exact h4, by simp (disch := omega) only [ms_k]; exact h5, by simp (disch := omega) only [ms_k]; exact h6, fun q hq => by simp (disch := omega) only [ms_k]; exact h7 q hq, fun m hm => ?_⟩
  rw [hnn] at hm
  have hP := h1.2.1 m (by have := ok.n; omega)
  have hm8 := ok.len hm
  have hx := h9 m hm
  have hln : ln (mset (mset V 334 (8 * l + p) a) 333 (8 * l + p) b) m = ln V m := by unfold ln; rw [ms_k (by omega), ms_k (by omega)]
  rw [t2]
  unfold LnAt at hx ⊢
  rw [hln]
  by_cases e : m = l
  · subst e
    simp (disch := omega) only [ms_k]
    refine ⟨hx.1, hx.2.1, hx.2.2.1, hx.2.2.2.1, hx.2.2.2.2.1, hx.2.2.2.2.2.1, fun q hq => ?_⟩
    have hq2 := hx.2.2.2.2.2.2 q hq
    by_cases e2 : q = p
    · rw [e2] at hq2 ⊢
      refine ⟨hq2.1, ?_, ?_⟩
      · rw [ms_eq, ms_eq]
      · rw [ms_eq, ms_eq]
    · simp (disch := omega) only [ms_j]
      exact hq2
  · have := hap m hm e
    simp (disch := omega) only [ms_k]
    refine ⟨hx.1, hx.2.1, hx.2.2.1, hx.2.2.2.1, hx.2.2.2.2.1, hx.2.2.2.2.2.1, fun q hq => ?_⟩
    have hq2 := hx.2.2.2.2.2.2 q hq
    simp (disch := omega) only [ms_j]
    exact hq2
theorem cls_set13 (h : Cls V σ) (ok : OkN V) : Cls (mset V 328 13 a) (mset σ 136 6 a) := by
  obtain ⟨h1, h2, h3, h4, h5, h6, h7, h8⟩ := h
  obtain ⟨t1, t2, t3⟩ := tab_mv h1 (σ' := mset σ 136 6 a) (ms_j (by omega)) (ms_k (by omega)) (fun j => ms_k (by omega)) (fun j => ms_k (by omega))
  have hnn : nn (mset V 328 13 a) = nn V := by unfold nn; rw [ms_j (by omega)]
  refine ⟨t1, by rw [ms_j (by omega), ms_j (by omega)]; exact h2, by rw [ms_j (by omega), ms_j (by omega)]; exact h3, by rw [ms_j (by omega), ms_j (by omega)]; exact h4, by rw [ms_j (by omega), ms_j (by omega)]; exact h5, by rw [ms_eq, ms_eq], fun s hs => by rw [ms_k (by omega), ms_k (by omega), ms_k (by omega), ms_k (by omega)]; exact h7 s hs, fun l hl => ?_⟩
  rw [hnn] at hl
  have hP := h1.2.1 l (by have := ok.n; omega)
  have hx := h8 l hl
  rw [t2]
  unfold LnAt ln at hx ⊢
  simp (disch := omega) only [ms_k]
  exact hx
theorem FrE.refl (σ : Mem) : FrE σ σ := fun k j => Or.inr (Or.inr rfl)
theorem FrE.trans {σ'' : Mem} (h : FrE σ σ') (g : FrE σ' σ'') : FrE σ σ'' := by
  intro k j
  rcases g k j with e | e | e
  · exact Or.inl e
  · exact Or.inr (Or.inl e)
  · rw [e]; exact h k j
theorem FrE.at {k j : Nat} (h : FrE σ σ') (g : ¬ ((4 ≤ k ∧ k < 136 ∧ ((k - 4) % 11 = 3 ∨ (k - 4) % 11 = 4)) ∨ (138 ≤ k ∧ k < 270 ∧ ((k - 138) % 11 = 3 ∨ (k - 138) % 11 = 4)))) : σ' k j = σ k j := by
  rcases h k j with e | e | e
  · exact absurd (Or.inl e) g
  · exact absurd (Or.inr e) g
  · exact e
theorem FrE.tab (h : FrE σ σ') (hT : Tab σ) : Tab σ' ∧ (∀ l, PL σ' l = PL σ l) ∧ (∀ l, QL σ' l = QL σ l) := tab_mv hT (h.at (by omega)) (h.at (by omega)) (fun j => h.at (by omega)) (fun j => h.at (by omega))
theorem abs32_eq {x : Int} (h : R32 x) : abs32 x = abv x := by
  unfold abs32 abv; rw [w32_id h]
  split
  · rfl
  · omega
theorem abs64_eq {x : Int} (h : R64 x) : abs64 x = abv x := by
  unfold abs64 abv; rw [w64_id h]
  split
  · rw [if_pos (by omega)]
  · split <;> omega
theorem exj_eq1 {x : Int} (h : R64 x) : min64 x 100000 = if x ≤ 100000 then x else 100000 := by
  unfold min64
  rw [w64_id h, w64_id ⟨by omega, by omega⟩]
  split
  · rw [if_neg (by omega)]
  · rw [if_pos (by omega)]
theorem exj_eq2 {x : Int} (h : R64 x) : min64 100000 x = if x ≤ 100000 then x else 100000 := by
  unfold min64
  rw [w64_id h, w64_id ⟨by omega, by omega⟩]
  split
  · rw [if_pos (by omega)]
  · split <;> omega
theorem cr_b (ok : OkN V) (ha : 0 ≤ a ∧ a ≤ 16000000) : 0 ≤ V 328 12 * a ∧ V 328 12 * a ≤ 159984000000 := by
  have h := ok.2.2.2.1
  refine ⟨Int.mul_nonneg h.1 ha.1, ?_⟩
  have a1 : V 328 12 * a ≤ 9999 * a := Int.mul_le_mul_of_nonneg_right h.2 ha.1
  omega
theorem c_avg (ok : OkN V) (hfu : 1000 < fu) (h13 : 0 ≤ V 328 13 ∧ V 328 13 ≤ 1000000) (hX : ∀ j, 0 ≤ X 356 j ∧ X 356 j ≤ 10230000) (hl : l < nn V) (hC : Cls (savp V X l 0) σ) (hLd : ∀ p, p < 8 → σ (PL σ l + 8) p = X 356 (8 * l + p)) :
    wp (fX1_averageLoads fu (PL σ l) (V 328 13 + 1) (V 328 12) σ) (fun r σ' => r = smf (gp1 V X l) (ln V l - 1) ∧ Cls (savp V X (l + 1) 0) σ' ∧ FrE σ σ') := by
  have h8 := ok.len hl
  have h12 := ok.2.2.2.1
  have hP := hC.isL (savp_ok ok h13.1 hX l 0) (by rw [savp_nn]; exact hl)
  have hOl := ok.ok hl
  have hO1 := hOl.1
  have hO3 := hOl.2.2.1
  have hds := div_fs ok hl
  unfold fX1_averageLoads
  refine for2 (f := fX1_averageLoads_L5 fu (PL σ l) _ _ _) (ln V l - 1) (fun i x s => x = smf (gp1 V X l) i ∧ Cls (savp V X l i) s ∧ FrE σ s) ?_ ?_ (i := 0) ⟨rfl, hC, FrE.refl _⟩
  · rintro n i x s hi ⟨rfl, j1, j2⟩ hrec
    have okp := savp_ok (X := X) ok h13.1 hX l i
    have hlp : l < nn (savp V X l i) := by rw [savp_nn]; exact hl
    have hPL := (j2.tab hC.1).2.1 l
    have hL := j1.ln hlp
    rw [hPL] at hL
    have hi2 : i + 1 < ln V l := by omega
    have e7 := hL.2.2.2.2.2.2 i (by rw [savp_ln]; exact hi2)
    rw [savp_here (by omega)] at e7
    have hq2 := hOl.2.2.2.2.2.2.2 i hi2
    have hXi := hX (8 * l + i)
    have hav := avj_b (V := V) (X := X) (j := 8 * l + i) h13.1 hXi hq2.2.2
    have e1 : (8 * l + i) / 8 = l := by omega
    have hcr := cr_b (V := V) ok hav
    have f1 : s (PL σ l) 1 = V 330 l := by rw [hL.2.1, savp_at (by omega) (by omega)]
    have f2 : s (PL σ l) 2 = V 335 l := by rw [hL.2.2.1, savp_at (by omega) (by omega)]
    have f0 : s (PL σ l) 0 = V 329 l := by rw [hL.1, savp_at (by omega) (by omega)]
    have f8 : s (PL σ l + 8) i = X 356 (8 * l + i) := by rw [j2.at (by omega)]; exact hLd i (by omega)
    rw [fX1_averageLoads_L5, f1]
    refine iLe (fun h => by omega) (fun _ => ?_)
    refine rI i rfl (by omega) (rI i rfl (by omega) (wp_lt (wp_lt (rI i rfl (by omega) ?_))))
    rw [f8, e7.2.2, w32_sm (x := X 356 (8 * l + i) - V 334 (8 * l + i)) (by omega) (by omega), w32_sm (x := V 328 13 + 1) (by omega) (by omega), parts_eq fu s ⟨by omega, by omega⟩ ⟨by omega, by omega⟩ (by omega), bnd_eq]
    rw [show V 334 (8 * l + i) + (X 356 (8 * l + i) - V 334 (8 * l + i)).tdiv (V 328 13 + 1) = avj V X (8 * l + i) from rfl]
    refine wI i rfl (by omega) (rI i rfl (by omega) ?_)
    rw [ms_eq, ms_k (by omega), ms_k (by omega), f2, f0, w32_sm (x := V 328 12) (by omega) (by omega), w32_sm (x := avj V X (8 * l + i)) (by omega) (by omega), w32_sm (x := V 335 l) (by omega) (by omega), w32_sm (x := V 329 l) (by omega) (by omega)]
    rw [parts_pos fu _ ⟨by omega, by omega⟩ hcr.1 ⟨by omega, by omega⟩ hds.1, bnd_eq]
    have hq0 : 0 ≤ V 328 12 * avj V X (8 * l + i) / (V 335 l * V 329 l) := Int.ediv_nonneg hcr.1 (by omega)
    have hq1 : V 328 12 * avj V X (8 * l + i) / (V 335 l * V 329 l) ≤ V 328 12 * avj V X (8 * l + i) := Int.ediv_le_self _ hcr.1
    rw [exj_eq1 ⟨by omega, by omega⟩]
    have hex : (if V 328 12 * avj V X (8 * l + i) / (V 335 l * V 329 l) ≤ 100000 then V 328 12 * avj V X (8 * l + i) / (V 335 l * V 329 l) else 100000) = exj V X (8 * l + i) := by unfold exj; rw [e1]
    rw [hex]
    refine wI i rfl (by omega) ?_
    refine hrec _ _ ⟨?_, ?_, fun k j => ?_⟩
    · simp only [smf]; unfold gp1; rw [abs32_eq ⟨by omega, by omega⟩]
    · have := cls_set34 (p := i) (a := avj V X (8 * l + i)) (b := exj V X (8 * l + i)) j1 okp hlp (by rw [savp_ln]; exact hi2)
      rw [← savp_step ok hl hi2, hPL] at this
      exact this
    · by_cases e : (k = PL σ l + 3 ∨ k = PL σ l + 4) ∧ j = i
      · omega
      · rw [mset_eq, if_neg (by omega), mset_eq, if_neg (by omega)]; exact j2 k j
  · rintro n x s ⟨rfl, j1, j2⟩
    have hlp : l < nn (savp V X l (ln V l - 1)) := by rw [savp_nn]; exact hl
    have hPL := (j2.tab hC.1).2.1 l
    have hL := j1.ln hlp
    rw [hPL] at hL
    have f1 : s (PL σ l) 1 = V 330 l := by rw [hL.2.1, savp_at (by omega) (by omega)]
    rw [fX1_averageLoads_L5, f1]
    refine iLe (fun _ => ?_) (fun h => by omega)
    rw [savp_next ok hl] at j1
    exact wp_some ⟨rfl, j1, j2⟩
theorem c_settleOnce (h : OkA t V) (hfu : 1000 < fu) (h13 : V 328 13 ≤ 1000000) (hC : ClsA V σ) : wp (fX2_settleOnce fu σ) (fun r σ' => r = gapv V ∧ ClsA (sav V) σ' ∧ Hi σ σ') := by
  have ok := h.1
  have hn := ok.n
  have h130 := h.2.2.1.1
  unfold fX2_settleOnce
  refine wp_bnd _ (c_loads h hfu hC) ?_
  intro _ s1 ⟨d1, d2, d3, d4⟩
  refine wp_stf ?_
  rw [d2.1.2.2.2.2.2.1]
  have hX : ∀ j, 0 ≤ ldv V 356 j ∧ ldv V 356 j ≤ 10230000 := fun j => ldv_b ok 356 j
  have hC2 : Cls (savp V (ldv V) 0 0) (mset s1 136 6 (V 328 13 + 1)) := by rw [savp_00]; exact cls_set13 d2.1 ok
  have hfr2 : ∀ k j, ¬ (k = 136 ∧ j = 6) → mset s1 136 6 (V 328 13 + 1) k j = s1 k j := fun k j g => by rw [mset_eq, if_neg g]
  have hPL2 : ∀ l, PL (mset s1 136 6 (V 328 13 + 1)) l = PL s1 l := fun l => by
    have hT := d2.1.1.1
    unfold PL; rw [hfr2 136 0 (by omega), hfr2 (pl (s1 136 0)) l (by omega)]
  generalize mset s1 136 6 (V 328 13 + 1) = s2 at *
  refine for2 (f := fX2_settleOnce_L18 fu _) (nn V) (fun i x s => x = gpS V (ldv V) i ∧ Cls (savp V (ldv V) i 0) s ∧ FrE s2 s) ?_ ?_ (i := 0) ⟨rfl, hC2, FrE.refl _⟩
  · rintro n i x s hi ⟨rfl, j1, j2⟩ hrec
    have hPL := (j2.tab hC2.1).2.1 i
    have hP := d2.1.isL ok hi
    rw [fX2_settleOnce_L18, j1.2.1, j1.2.2.2.2.2.1, j1.2.2.2.2.1, savp_13, savp_at (by omega) (by omega), savp_at (by omega) (by omega)]
    refine iLe (fun h => by omega) (fun _ => ?_)
    refine wp_rfd (rR i rfl (by omega) ?_)
    rw [show pl (s (pl (s 136 0)) i) = PL s i from rfl]
    refine wp_bnd _ (c_avg ok hfu ⟨h130, h13⟩ hX hi j1 (fun p hp => ?_)) ?_
    · rw [hPL, hPL2, j2.at (by omega), hfr2 _ _ (by omega)]; exact (d1.1 i hi p hp).1
    · rintro x s' ⟨rfl, g1, g2⟩
      exact wp_lt (hrec _ _ ⟨rfl, g1, j2.trans g2⟩)
  · rintro n x s ⟨rfl, j1, j2⟩
    rw [fX2_settleOnce_L18, j1.2.1, savp_at (by omega) (by omega)]
    refine iLe (fun _ => ?_) (fun h => by omega)
    refine wp_some ⟨rfl, d2.of j1 (fun k j hk => by rw [j2.at (by omega), hfr2 _ _ (by omega)]) (savp_at (by omega) (by omega)) (savp_at (by omega) (by omega)) (fun i => savp_at (by omega) (by omega)) (fun i => savp_at (by omega) (by omega)), fun k j hk => ?_⟩
    rw [j2.at (by omega), hfr2 _ _ (by omega)]; exact d3 k j hk
theorem r_settlesOnce (h : OkA t V) (hfu : 1000 < fu) (h13 : V 328 13 ≤ 1000000) (hR : RefA V σ) : wp (fX7_settlesOnce fu σ) (fun _ σ' => σ' 328 46 = gapv V ∧ RefA (sav V) σ' ∧ Lo σ σ') := by
  have ok := h.1
  have hn := ok.n
  have h130 := h.2.2.1.1
  have h12 := ok.2.2.2.1
  unfold fX7_settlesOnce
  refine wp_bnd _ (r_loads h hfu hR) ?_
  intro _ s1 ⟨d1, d2, d3, d4, d5⟩
  refine wp_stf (wp_stf ?_)
  rw [d3.1.j (by omega)]
  have hX : ∀ j, 0 ≤ ldv V 356 j ∧ ldv V 356 j ≤ 10230000 := fun j => ldv_b ok 356 j
  have hR2 : RefA (savp V (ldv V) 0 0) (mset (mset s1 328 13 (V 328 13 + 1)) 328 46 0) := by
    rw [savp_00]
    exact (d3.set (k := 328) (j := 13) (a := V 328 13 + 1)).mv ((RP.refl _).set (by omega))
  have hL2 : ∀ j, j < 96 → mset (mset s1 328 13 (V 328 13 + 1)) 328 46 0 356 j = ldv V 356 j := fun j hj => by rw [ms_k (by omega), ms_k (by omega)]; exact (d1.1 j hj).1
  have hlo : Lo σ (mset (mset s1 328 13 (V 328 13 + 1)) 328 46 0) := (d4.set (by omega)).set (by omega)
  have h46 : mset (mset s1 328 13 (V 328 13 + 1)) 328 46 0 328 46 = 0 := ms_eq _ _ _ _
  generalize mset (mset s1 328 13 (V 328 13 + 1)) 328 46 0 = s2 at *
  refine for1 (f := fX7_settlesOnce_L21 fu _) (nn V) (fun i s => s 328 46 = gpS V (ldv V) i ∧ RefA (savp V (ldv V) i 0) s ∧ (∀ j, j < 96 → s 356 j = ldv V 356 j) ∧ Lo σ s) ?_ ?_ (i := 0) ⟨h46, hR2, hL2, hlo⟩
  · intro n i s hi ⟨j1, j2, j3, j4⟩ hrec
    have h8 := ok.len hi
    have hOl := ok.ok hi
    have hds := div_fs ok hi
    rw [fX7_settlesOnce_L21, j2.1.j (by omega), savp_at (by omega) (by omega)]
    refine iLe (fun h => by omega) (fun _ => ?_)
    refine for1 (f := fX7_settlesOnce_L31 fu (i : Int) _) (ln V i - 1) (fun p s => s 328 46 = gpS V (ldv V) i + smf (gp1 V (ldv V) i) p ∧ RefA (savp V (ldv V) i p) s ∧ (∀ j, j < 96 → s 356 j = ldv V 356 j) ∧ Lo σ s) ?_ ?_ (i := 0) ⟨by simp only [smf]; omega, j2, j3, j4⟩
    · intro n p s hp ⟨g1, g2, g3, g4⟩ hrec2
      have hp2 : p + 1 < ln V i := by omega
      have hq2 := hOl.2.2.2.2.2.2.2 p hp2
      have hXi := hX (8 * i + p)
      have hav := avj_b (V := V) (X := ldv V) (j := 8 * i + p) h130 hXi hq2.2.2
      have e1 : (8 * i + p) / 8 = i := by omega
      have hcr := cr_b (V := V) ok hav
      have f334 : s 334 (8 * i + p) = V 334 (8 * i + p) := by rw [g2.1.2 334 _ (by omega) (by omega), savp_here (by omega)]
      have f13 : s 328 13 = V 328 13 + 1 := by rw [g2.1.j (by omega), savp_13]
      have f12 : s 328 12 = V 328 12 := by rw [g2.1.j (by omega), savp_at (by omega) (by omega)]
      have f335 : s 335 i = V 335 i := by rw [g2.1.2 335 _ (by omega) (by omega), savp_at (by omega) (by omega)]
      have f329 : s 329 i = V 329 i := by rw [g2.1.2 329 _ (by omega) (by omega), savp_at (by omega) (by omega)]
      rw [fX7_settlesOnce_L31]
      refine rI i rfl (by omega) ?_
      rw [g2.1.2 330 _ (by omega) (by omega), savp_at (by omega) (by omega)]
      refine iLe (fun h => by omega) (fun _ => ?_)
      unfold fX7_at
      refine wp_bs ?_
      refine rI (8 * i + p) (by omega) (by omega) (rI (8 * i + p) (by omega) (by omega) (wp_lt (wp_stf (rI (8 * i + p) (by omega) (by omega) ?_))))
      rw [ms_j (by omega), ms_k (by omega), f13, f334, g3 _ (by omega), g1, w32_sm (x := V 328 13 + 1) (by omega) (by omega)]
      refine wp_dv64 ⟨by omega, by omega⟩ (by omega) ?_
      rw [div64_eq ⟨by omega, by omega⟩ ⟨by omega, by omega⟩ (by omega)]
      rw [show V 334 (8 * i + p) + (ldv V 356 (8 * i + p) - V 334 (8 * i + p)).tdiv (V 328 13 + 1) = avj V (ldv V) (8 * i + p) from rfl]
      refine wI (8 * i + p) (by omega) (by omega) (rI (8 * i + p) (by omega) (by omega) (rI i rfl (by omega) (rI i rfl (by omega) ?_)))
      rw [ms_eq, ms_k (by omega), ms_k (by omega), ms_k (by omega), ms_k (by omega), ms_k (by omega), ms_j (by omega), f335, f329, f12, w32_sm (x := V 335 i * V 329 i) (by omega) (by omega), w32_sm (x := V 328 12) (by omega) (by omega)]
      refine wp_dv64 ⟨by omega, by omega⟩ (by omega) ?_
      rw [div64_eq ⟨by omega, by omega⟩ ⟨by omega, by omega⟩ hds.1, Int.tdiv_eq_ediv_of_nonneg hcr.1]
      have hq0 : 0 ≤ V 328 12 * avj V (ldv V) (8 * i + p) / (V 335 i * V 329 i) := Int.ediv_nonneg hcr.1 (by omega)
      have hq1 : V 328 12 * avj V (ldv V) (8 * i + p) / (V 335 i * V 329 i) ≤ V 328 12 * avj V (ldv V) (8 * i + p) := Int.ediv_le_self _ hcr.1
      rw [exj_eq2 ⟨by omega, by omega⟩]
      have hex : (if V 328 12 * avj V (ldv V) (8 * i + p) / (V 335 i * V 329 i) ≤ 100000 then V 328 12 * avj V (ldv V) (8 * i + p) / (V 335 i * V 329 i) else 100000) = exj V (ldv V) (8 * i + p) := by unfold exj; rw [e1]
      rw [hex]
      refine wI (8 * i + p) (by omega) (by omega) ?_
      refine hrec2 _ ⟨?_, ?_, fun j hj => ?_, ?_⟩
      · rw [ms_k (by omega), ms_k (by omega), ms_eq]; simp only [smf]; rw [abs64_eq ⟨by omega, by omega⟩]
        unfold gp1
        omega
      · rw [savp_step ok hi hp2]
        have hm := g2.mv (σ' := mset s 328 46 (gpS V (ldv V) i + smf (gp1 V (ldv V) i) p + abs64 (ldv V 356 (8 * i + p) - V 334 (8 * i + p)))) ((RP.refl _).set (by omega))
        exact (hm.set).set
      · rw [ms_k (by omega), ms_k (by omega), ms_k (by omega)]; exact g3 j hj
      · exact ((g4.set (by omega)).set (by omega)).set (by omega)
    · intro n s ⟨g1, g2, g3, g4⟩
      rw [fX7_settlesOnce_L31]
      refine rI i rfl (by omega) ?_
      rw [g2.1.2 330 _ (by omega) (by omega), savp_at (by omega) (by omega)]
      refine iLe (fun _ => ?_) (fun h => by omega)
      rw [savp_next ok hi] at g2
      exact hrec _ ⟨g1, g2, g3, g4⟩
  · intro n s ⟨j1, j2, j3, j4⟩
    rw [fX7_settlesOnce_L21, j2.1.j (by omega), savp_at (by omega) (by omega)]
    exact iLe (fun _ => wp_some ⟨j1, j2, j4⟩) (fun h => by omega)
end SETTLE
