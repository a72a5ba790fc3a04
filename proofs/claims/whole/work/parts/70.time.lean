/-! ===== by timetable ===== -/
def tbs (V : Mem) (l p : Nat) : Nat → Int
  | 0 => 0
  | d + 1 => tbs V l p d + tmv V l (p + d)
def fst0 (V : Mem) (l p : Nat) : Int := 100 * V 336 l + tbs V l 0 p
def fAt (V : Mem) (l p : Nat) (t : Int) : Int := if t ≤ fst0 V l p then fst0 V l p else fst0 V l p + ((t - fst0 V l p) * V 329 l + 5999) / 6000 * 6000 / V 329 l
section TIME
variable {V V' σ σ' X W : Mem} {c rid : Nat → Int} {t k j l p q s P fu d i : Nat} {a b v r A B x now : Int}
theorem tbs_b (ok : OkN V) : ∀ d : Nat, 0 ≤ tbs V l p d ∧ tbs V l p d ≤ 219800 * (d : Int) := by
  intro d
  induction d with
  | zero => simp [tbs]
  | succ d ih =>
    have := ok.tm l (p + d)
    simp only [tbs]
    omega
theorem fst0_b (ok : OkN V) (hl : l < nn V) (hp : p < ln V l) : 0 ≤ fst0 V l p ∧ fst0 V l p ≤ 1545000 := by
  have h1 := tbs_b (l := l) (p := 0) ok p
  have h2 := (ok.ok hl).2.2.2.1
  have h8 := ok.len hl
  unfold fst0
  omega
theorem fAt_b (ok : OkN V) (hl : l < nn V) (hp : p < ln V l) (ht : 0 ≤ now) : 0 ≤ fAt V l p now ∧ fAt V l p now ≤ now + 1560000 := by
  have h1 := fst0_b ok hl hp
  have hf := (ok.ok hl).1
  unfold fAt
  split
  · omega
  · rename_i g
    generalize hy : now - fst0 V l p = y at *
    have hy0 : 0 ≤ y * V 329 l := Int.mul_nonneg (by omega) (by omega)
    have k0 : 0 ≤ (y * V 329 l + 5999) / 6000 := Int.ediv_nonneg (by omega) (by omega)
    have k1 : (y * V 329 l + 5999) / 6000 * 6000 ≤ y * V 329 l + 5999 := Int.ediv_mul_le _ (by omega)
    have k2 : 0 ≤ (y * V 329 l + 5999) / 6000 * 6000 / V 329 l := Int.ediv_nonneg (by omega) (by omega)
    have k3 : (y * V 329 l + 5999) / 6000 * 6000 / V 329 l ≤ y + 5999 := by
      refine Int.ediv_le_of_le_mul (by omega) ?_
      have : (5999 : Int) * 1 ≤ 5999 * V 329 l := by omega
      rw [Int.add_mul]
      omega
    omega
theorem c_timeBetween (ok : OkN V) (hfu : 1000 < fu) (hl : l < nn V) (hL : LnAt V σ l P) (hpq : p ≤ q) (hq : q < ln V l) : wp (fX1_timeBetween fu P (p : Int) (q : Int) σ) (fun r σ' => r = tbs V l p (q - p) ∧ σ = σ') := by
  have h8 := ok.len hl
  unfold fX1_timeBetween
  refine for2 (f := fX1_timeBetween_L5 fu P (q : Int) _) q (fun i x s => p ≤ i ∧ x = tbs V l p (i - p) ∧ σ = s) ?_ ?_ (i := p) ⟨Nat.le_refl _, by rw [Nat.sub_self]; rfl, rfl⟩
  · rintro n i x s hi ⟨h0, rfl, rfl⟩ hrec
    rw [fX1_timeBetween_L5]
    refine iLe (fun h => by omega) (fun _ => ?_)
    refine wp_bnd _ (c_time ok hl hL (by omega)) ?_
    rintro x s' ⟨rfl, rfl⟩
    refine wp_lt (hrec _ _ ⟨by omega, ?_, rfl⟩)
    rw [show i + 1 - p = (i - p) + 1 by omega]
    simp only [tbs]
    rw [show p + (i - p) = i by omega]
  · rintro n x s ⟨h0, rfl, rfl⟩
    rw [fX1_timeBetween_L5]
    exact iLe (fun _ => wp_some ⟨rfl, rfl⟩) (fun h => by omega)
theorem c_firstAt (ok : OkN V) (hfu : 1000 < fu) (hl : l < nn V) (hL : LnAt V σ l P) (hp : p < ln V l) (hn : 0 ≤ now ∧ now ≤ 50000000) : wp (fX1_firstAt fu P (p : Int) now σ) (fun r σ' => r = fAt V l p now ∧ σ = σ') := by
  have h8 := ok.len hl
  have h1 := fst0_b ok hl hp
  have hf := (ok.ok hl).1
  unfold fX1_firstAt
  refine wp_bnd _ (c_timeBetween (p := 0) ok hfu hl hL (by omega) hp) ?_
  rintro x s' ⟨rfl, rfl⟩
  refine wp_lt ?_
  rw [hL.2.2.2.1, Nat.sub_zero, show 100 * V 336 l + tbs V l 0 p = fst0 V l p from rfl, hL.1]
  refine iLt (fun g => ?_) (fun g => wp_some ⟨by unfold fAt; rw [if_pos g], rfl⟩)
  rw [w32_sm (x := now - fst0 V l p) (by omega) (by omega), w32_sm (x := V 329 l) (by omega) (by omega)]
  have hy0 : 0 ≤ (now - fst0 V l p) * V 329 l := Int.mul_nonneg (by omega) (by omega)
  have hy1 : (now - fst0 V l p) * V 329 l ≤ 50000000 * 60 := by
    have a1 : (now - fst0 V l p) * V 329 l ≤ (now - fst0 V l p) * 60 := Int.mul_le_mul_of_nonneg_left hf.2 (by omega)
    omega
  rw [show (now - fst0 V l p) * V 329 l + 6000 - 1 = (now - fst0 V l p) * V 329 l + 5999 by omega]
  have k0 : 0 ≤ ((now - fst0 V l p) * V 329 l + 5999) / 6000 := Int.ediv_nonneg (by omega) (by omega)
  have k1 : ((now - fst0 V l p) * V 329 l + 5999) / 6000 * 6000 ≤ (now - fst0 V l p) * V 329 l + 5999 := Int.ediv_mul_le _ (by omega)
  rw [parts_pos fu σ ⟨by omega, by omega⟩ (by omega) ⟨by omega, by omega⟩ (by omega), bnd_eq]
  rw [hL.1, w32_sm (x := V 329 l) (by omega) (by omega), parts_pos fu σ ⟨by omega, by omega⟩ (by omega) ⟨by omega, by omega⟩ hf.1, bnd_eq]
  exact wp_some ⟨by unfold fAt; rw [if_neg (by omega)], rfl⟩
theorem r_comesAt (ok : OkN V) (hfu : 1000 < fu) (hl : l < nn V) (hR : Ref V σ) (hp : p < ln V l) (hn : 0 ≤ now ∧ now ≤ 50000000) : wp (fX7_comesAt fu (l : Int) (p : Int) now σ) (fun r σ' => r = fAt V l p now ∧ σ = σ') := by
  have h8 := ok.len hl
  have hnn := ok.n
  have h1 := fst0_b ok hl hp
  have hf := (ok.ok hl).1
  have ho := (ok.ok hl).2.2.2.1
  unfold fX7_comesAt
  refine rI l rfl (by omega) (wp_lt ?_)
  rw [hR.2 336 _ (by omega) (by omega), w32_sm (by omega) (by omega)]
  refine for2 (f := fX7_comesAt_L16 fu (l : Int) (p : Int) now _) p (fun i x s => x = 100 * V 336 l + tbs V l 0 i ∧ σ = s) ?_ ?_ (i := 0) ⟨by simp [tbs], rfl⟩
  · rintro n i x s hi ⟨rfl, rfl⟩ hrec
    rw [fX7_comesAt_L16]
    refine iLe (fun h => by omega) (fun _ => ?_)
    refine wp_bnd _ (r_time ok hl hR (by omega)) ?_
    rintro x s' ⟨rfl, rfl⟩
    refine wp_lt (hrec _ _ ⟨?_, rfl⟩)
    simp only [tbs]
    rw [Nat.zero_add]
    omega
  · rintro n x s ⟨rfl, rfl⟩
    rw [fX7_comesAt_L16]
    refine iLe (fun _ => ?_) (fun h => by omega)
    rw [show 100 * V 336 l + tbs V l 0 p = fst0 V l p from rfl]
    refine jLt (fun g => ?_) (fun g => wp_some ⟨by unfold fAt; rw [if_pos g], rfl⟩)
    refine wp_lt (rI l rfl (by omega) ?_)
    rw [hR.2 329 _ (by omega) (by omega), w32_sm (by omega) (by omega)]
    have hy0 : 0 ≤ (now - fst0 V l p) * V 329 l := Int.mul_nonneg (by omega) (by omega)
    have hy1 : (now - fst0 V l p) * V 329 l ≤ 50000000 * 60 := by
      have a1 : (now - fst0 V l p) * V 329 l ≤ (now - fst0 V l p) * 60 := Int.mul_le_mul_of_nonneg_left hf.2 (by omega)
      omega
    refine wp_dv64 ⟨by omega, by omega⟩ (by omega) (wp_lt ?_)
    rw [div64_eq ⟨by omega, by omega⟩ ⟨by omega, by omega⟩ (by omega), Int.tdiv_eq_ediv_of_nonneg (by omega)]
    have k0 : 0 ≤ ((now - fst0 V l p) * V 329 l + 5999) / 6000 := Int.ediv_nonneg (by omega) (by omega)
    have k1 : ((now - fst0 V l p) * V 329 l + 5999) / 6000 * 6000 ≤ (now - fst0 V l p) * V 329 l + 5999 := Int.ediv_mul_le _ (by omega)
    refine rI l rfl (by omega) ?_
    rw [hR.2 329 _ (by omega) (by omega), w32_sm (by omega) (by omega)]
    refine wp_dv64 ⟨by omega, by omega⟩ (by omega) ?_
    rw [Int.mul_comm 6000, div64_eq ⟨by omega, by omega⟩ ⟨by omega, by omega⟩ hf.1, Int.tdiv_eq_ediv_of_nonneg (by omega)]
    exact wp_some ⟨by unfold fAt; rw [if_neg (by omega)], rfl⟩
theorem c_isStart (fu : Nat) (σ : Mem) (ha : R32 a) : wp (fX6_isStart fu a σ) (fun r σ' => (r = 0 ∨ r = 1) ∧ (r = 1 ↔ 0 ≤ a ∧ a ≤ 100000) ∧ σ = σ') := by
  unfold fX6_isStart
  refine wp_jn (wp_jn ?_)
  refine iLt0 (fun h => wp_rtz (Or.inl rfl) ⟨Or.inl rfl, by omega, rfl⟩) (fun h => ?_) ha
  exact iLt (fun h => wp_rtz (Or.inl rfl) ⟨Or.inl rfl, by omega, rfl⟩) (fun h => wp_rtz (Or.inr rfl) ⟨Or.inr rfl, by omega, rfl⟩)
theorem op_comes {e : Int} (h : OkA t V) (hfu : 1000 < fu) (ha : R32 a) (hb : R32 b) (he : R32 e) : Op t V (fX6_comes fu a b e) (fX7_comes fu a b e) := by
  have hn := h.1.n
  by_cases hc : (0 ≤ a ∧ a < V 328 9 ∧ 0 ≤ b ∧ b < V 330 a.toNat) ∧ 0 ≤ e ∧ e ≤ 100000
  · obtain ⟨l, rfl⟩ := Int.eq_ofNat_of_zero_le hc.1.1
    obtain ⟨p, rfl⟩ := Int.eq_ofNat_of_zero_le hc.1.2.2.1
    have hl : l < nn V := by omega
    rw [Int.toNat_natCast] at hc
    have h8 := h.1.len hl
    refine op_same h (fAt V l p e) (fun σ hC => ?_) (fun σ hR => ?_)
    · unfold fX6_comes
      refine wp_bnd _ (c_hasHalt h.1 hC.1 ha hb) ?_
      rintro x s' ⟨h0, h1, rfl⟩
      rw [Int.toNat_natCast] at h1
      refine wp_jn (iEq0 (fun h => by omega) (fun _ => ?_))
      refine wp_bnd _ (c_isStart fu σ he) ?_
      rintro x s' ⟨g0, g1, rfl⟩
      refine iNe0 (fun _ => ?_) (fun h => by omega)
      refine wp_rfd (rR l rfl (by omega) ?_)
      rw [show pl (σ (pl (σ 136 0)) l) = PL σ l from rfl]
      exact wp_ret (c_firstAt h.1 hfu hl (hC.1.ln hl) (by omega) (by omega)) ⟨rfl, CP.refl σ⟩
    · unfold fX7_comes
      refine wp_stf ?_
      refine wp_bnd _ (r_isHalt h.1 hR.s20.1 ha hb) ?_
      rintro x s' ⟨h0, h1, rfl⟩
      rw [Int.toNat_natCast] at h1
      refine wp_jn (wp_jn (iEq0 (fun h => by omega) (fun _ => ?_)))
      rw [w32_id he]
      refine wp_bnd _ (r_in fu (by omega) (by omega) (by omega)) ?_
      rintro x s' ⟨g0, g1, rfl⟩
      refine iEq0 (fun h => by omega) (fun _ => ?_)
      refine wp_bnd _ (r_comesAt h.1 hfu hl hR.s20.1 (by omega) (by omega)) ?_
      rintro x s' ⟨rfl, rfl⟩
      exact wp_some ⟨rfl, rp20 σ 0⟩
  · refine op_same h (-1) (fun σ hC => ?_) (fun σ hR => ?_)
    · unfold fX6_comes
      refine wp_bnd _ (c_hasHalt h.1 hC.1 ha hb) ?_
      rintro x s' ⟨h0, h1, rfl⟩
      refine wp_jn (iEq0 (fun h => wp_some ⟨rfl, CP.refl σ⟩) (fun _ => ?_))
      refine wp_bnd _ (c_isStart fu σ he) ?_
      rintro x s' ⟨g0, g1, rfl⟩
      exact iNe0 (fun _ => by omega) (fun h => wp_some ⟨rfl, CP.refl σ⟩)
    · unfold fX7_comes
      refine wp_stf ?_
      refine wp_bnd _ (r_isHalt h.1 hR.s20.1 ha hb) ?_
      rintro x s' ⟨h0, h1, rfl⟩
      refine wp_jn (wp_jn (iEq0 (fun h => wp_some ⟨rfl, rp20 σ 0⟩) (fun _ => ?_)))
      rw [w32_id he]
      refine wp_bnd _ (r_in fu (by omega) (by omega) (by omega)) ?_
      rintro x s' ⟨g0, g1, rfl⟩
      exact iEq0 (fun h => wp_some ⟨rfl, rp20 σ 0⟩) (fun _ => by omega)
/-! which comes first -/
def fo (V : Mem) (c : Nat → Int) (s : Nat) (now : Int) : Nat → Int × Int
  | 0 => (-1, 0)
  | i + 1 => if (fo V c s now i).1 = -1 ∨ fAt V (gtL (tk V c s) i).2 (plc V (gtL (tk V c s) i).2 s) now < (fo V c s now i).2 then ((i : Int), fAt V (gtL (tk V c s) i).2 (plc V (gtL (tk V c s) i).2 s) now) else fo V c s now i
theorem fo_take {i : Nat} (h : (fo V c s now i).1 = -1 ∨ fAt V (gtL (tk V c s) i).2 (plc V (gtL (tk V c s) i).2 s) now < (fo V c s now i).2) : fo V c s now (i + 1) = ((i : Int), fAt V (gtL (tk V c s) i).2 (plc V (gtL (tk V c s) i).2 s) now) := if_pos h
theorem fo_keep {i : Nat} (h : ¬ ((fo V c s now i).1 = -1 ∨ fAt V (gtL (tk V c s) i).2 (plc V (gtL (tk V c s) i).2 s) now < (fo V c s now i).2)) : fo V c s now (i + 1) = fo V c s now i := if_neg h
theorem fo_inv : ∀ i, (i = 0 ∧ fo V c s now i = (-1, 0)) ∨ ∃ q : Nat, q < i ∧ (fo V c s now i).1 = (q : Int) ∧ (fo V c s now i).2 = fAt V (gtL (tk V c s) q).2 (plc V (gtL (tk V c s) q).2 s) now := by
  intro i
  induction i with
  | zero => exact Or.inl ⟨rfl, rfl⟩
  | succ i ih =>
    right
    by_cases g : (fo V c s now i).1 = -1 ∨ fAt V (gtL (tk V c s) i).2 (plc V (gtL (tk V c s) i).2 s) now < (fo V c s now i).2
    · rw [fo_take g]; exact ⟨i, by omega, rfl, rfl⟩
    · rw [fo_keep g]
      rcases ih with ⟨e1, e2⟩ | ⟨q, e1, e2⟩
      · rw [e2] at g; exact absurd (Or.inl rfl) g
      · exact ⟨q, by omega, e2⟩
def foq (V : Mem) (c : Nat → Int) (s : Nat) (now : Int) : Nat := (fo V c s now (tk V c s).length).1.toNat
theorem foq_is (hn : 0 < (tk V c s).length) : foq V c s now < (tk V c s).length ∧ (fo V c s now (tk V c s).length).1 = (foq V c s now : Int) ∧ (fo V c s now (tk V c s).length).2 = fAt V (gtL (tk V c s) (foq V c s now)).2 (plc V (gtL (tk V c s) (foq V c s now)).2 s) now := by
  rcases fo_inv (V := V) (c := c) (s := s) (now := now) (tk V c s).length with ⟨e, _⟩ | ⟨q, e1, e2, e3⟩
  · omega
  · have : foq V c s now = q := by unfold foq; rw [e2, Int.toNat_natCast]
    rw [this]
    exact ⟨e1, e2, e3⟩
theorem c_firstOf (ok : OkN V) (hfu : 1000 < fu) (hC : Cls V σ) (hD : DatC V c σ) (hb : ∀ s, -1 ≤ c s) (hs : s < 10) (hn : 0 ≤ now ∧ now ≤ 40000000) : wp (fX0_firstOf fu (283 + 4 * s) now σ) (fun r σ' => r = (fo V c s now (tk V c s).length).1 ∧ σ = σ') := by
  have hlen := tk_len (c := c) (s := s) ok
  have hnn := ok.n
  have hT := (hD.1 s hs).2
  unfold fX0_firstOf
  refine for3 (f := fX0_firstOf_L9 fu (283 + 4 * s) now _) (tk V c s).length (fun i x y s' => x = (fo V c s now i).1 ∧ y = (fo V c s now i).2 ∧ σ = s') ?_ ?_ (i := 0) ⟨rfl, rfl, rfl⟩
  · rintro n i x y s' hi ⟨rfl, rfl, rfl⟩ hrec
    have hl := tk_line ok hb hi
    have hfb := fAt_b ok hl.1 (show plc V (gtL (tk V c s) i).2 s < ln V (gtL (tk V c s) i).2 by omega) hn.1
    have hinv := fo_inv (V := V) (c := c) (s := s) (now := now) i
    have hfob : -1 ≤ (fo V c s now i).1 ∧ (fo V c s now i).1 < 12 ∧ 0 ≤ (fo V c s now i).2 ∧ (fo V c s now i).2 ≤ now + 1560000 := by
      rcases hinv with ⟨_, e⟩ | ⟨q, e1, e2, e3⟩
      · rw [e]; simp only []; omega
      · have hlq := tk_line ok hb (show q < (tk V c s).length by omega)
        have hfq := fAt_b ok hlq.1 (show plc V (gtL (tk V c s) q).2 s < ln V (gtL (tk V c s) q).2 by omega) hn.1
        omega
    rw [fX0_firstOf_L9, hT.1]
    refine iLe (fun h => by omega) (fun _ => ?_)
    refine wp_rfd (rI i rfl (by omega) ?_)
    rw [(hT.2.2 i hi).1]
    refine rR (gtL (tk V c s) i).2 rfl (by omega) ?_
    rw [show pl (σ (pl (σ 136 0)) (gtL (tk V c s) i).2) = PL σ (gtL (tk V c s) i).2 from rfl]
    refine rI i rfl (by omega) ?_
    rw [(hT.2.2 i hi).2]
    refine wp_bnd _ (c_firstAt ok hfu hl.1 (hC.ln hl.1) (by omega) (by omega)) ?_
    rintro z s' ⟨rfl, rfl⟩
    refine wp_jn (wp_jn ?_)
    refine iEq (fun g => hrec _ _ _ ?_) (fun g => ?_)
    · rw [fo_take (Or.inl g)]; exact ⟨rfl, rfl, rfl⟩
    · refine iLe (fun g2 => hrec _ _ _ ?_) (fun g2 => hrec _ _ _ ?_)
      · rw [fo_keep (by omega)]; exact ⟨rfl, rfl, rfl⟩
      · rw [fo_take (Or.inr g2)]; exact ⟨rfl, rfl, rfl⟩
  · rintro n x y s' ⟨rfl, rfl, rfl⟩
    rw [fX0_firstOf_L9, hT.1]
    exact iLe (fun _ => wp_some ⟨rfl, rfl⟩) (fun h => by omega)
/-! rides -/
noncomputable def jln (V : Mem) (s : Nat) (now : Int) : Nat := (gtL (tk V (cv V) s) (foq V (cv V) s now)).2
noncomputable def jnx (V : Mem) (now : Int) (s : Nat) : Int × Nat := (fAt V (jln V s now) (plc V (jln V s now) s) now + tbs V (jln V s now) (plc V (jln V s now) s) (lvq V (cv V) (jln V s now) (plc V (jln V s now) s) - plc V (jln V s now) s), ali V (cv V) s (foq V (cv V) s now))
noncomputable def jr (V : Mem) (now : Int) (s : Nat) : Nat → Int × Nat
  | 0 => (now, s)
  | i + 1 => jnx V (jr V now s i).1 (jr V now s i).2
def rkF (c : Nat → Int) (v : Int) : Nat → Nat
  | 0 => 0
  | n + 1 => rkF c v n + (if 0 ≤ c n ∧ c n < v then 1 else 0)
theorem rkF_le (c : Nat → Int) (v : Int) : ∀ n, rkF c v n ≤ n ∧ (∀ s, s < n → ¬ (0 ≤ c s ∧ c s < v) → rkF c v n + 1 ≤ n) := by
  intro n
  induction n with
  | zero => exact ⟨Nat.le_refl _, fun s hs => by omega⟩
  | succ n ih =>
    simp only [rkF]
    refine ⟨by split <;> omega, fun s hs g => ?_⟩
    by_cases e : s = n
    · subst e; rw [if_neg g]; omega
    · have := ih.2 s (by omega) g
      split <;> omega
theorem rkF_mono (c : Nat → Int) {v v' : Int} (h : v' ≤ v) : ∀ n, rkF c v' n ≤ rkF c v n ∧ (∀ s, s < n → 0 ≤ c s → c s < v → ¬ c s < v' → rkF c v' n + 1 ≤ rkF c v n) := by
  intro n
  induction n with
  | zero => exact ⟨Nat.le_refl _, fun s hs => by omega⟩
  | succ n ih =>
    simp only [rkF]
    have hm : (if 0 ≤ c n ∧ c n < v' then 1 else 0) ≤ (if 0 ≤ c n ∧ c n < v then 1 else 0) := by split <;> split <;> omega
    refine ⟨by omega, fun s hs g1 g2 g3 => ?_⟩
    by_cases e : s = n
    · subst e; rw [if_neg (by omega), if_pos ⟨g1, g2⟩]; omega
    · have := ih.2 s (by omega) g1 g2 g3
      omega
noncomputable def rkv (V : Mem) (s : Nat) : Nat := rkF (cv V) (cv V s) 10
/-- one ride on -/
theorem jnx_is (h : OkA t V) (hs : s < 10) (hg : s ≠ gl V) (hc : 0 ≤ cv V s) (hn : 0 ≤ now) : foq V (cv V) s now < (tk V (cv V) s).length ∧ (jnx V now s).2 < 10 ∧ 0 ≤ cv V (jnx V now s).2 ∧ rkv V (jnx V now s).2 + 1 ≤ rkv V s ∧ 0 ≤ (jnx V now s).1 ∧ (jnx V now s).1 ≤ now + 3200000 := by
  have ok := h.1
  have hb := cv_ok ok
  have hf := fs_pos ok hb hs hg hc (cv_fix ok hs)
  have hne := tk_ne ok hf.1
  have hq := foq_is (now := now) hne
  have hl := tk_line ok (fun s => (hb.1 s).1) hq.1
  have hlv := tk_lv ok (fun s => (hb.1 s).1) hq.1
  have hle : ali V (cv V) s (foq V (cv V) s now) < 10 ∧ 0 ≤ cv V (ali V (cv V) s (foq V (cv V) s now)) ∧ cv V (ali V (cv V) s (foq V (cv V) s now)) + 100 ≤ cv V s := lv_less ok hb h.2.1 hs hg hc (cv_fix ok hs) hq.1
  have hl1 : jln V s now < nn V := hl.1
  have hl3 : plc V (jln V s now) s + 1 < ln V (jln V s now) := hl.2.2.1
  have hlv1 : plc V (jln V s now) s < lvq V (cv V) (jln V s now) (plc V (jln V s now) s) := hlv.1
  have hlv2 : lvq V (cv V) (jln V s now) (plc V (jln V s now) s) < ln V (jln V s now) := hlv.2.1
  have h8 := ok.len hl1
  have hfa := fAt_b (p := plc V (jln V s now) s) ok hl1 (by omega) hn
  have htb := tbs_b (l := jln V s now) (p := plc V (jln V s now) s) ok (lvq V (cv V) (jln V s now) (plc V (jln V s now) s) - plc V (jln V s now) s)
  have e2 : (jnx V now s).2 = ali V (cv V) s (foq V (cv V) s now) := rfl
  have e1 : (jnx V now s).1 = fAt V (jln V s now) (plc V (jln V s now) s) now + tbs V (jln V s now) (plc V (jln V s now) s) (lvq V (cv V) (jln V s now) (plc V (jln V s now) s) - plc V (jln V s now) s) := rfl
  rw [e1, e2]
  refine ⟨hq.1, hle.1, hle.2.1, ?_, by omega, by omega⟩
  exact (rkF_mono (cv V) (show cv V (ali V (cv V) s (foq V (cv V) s now)) ≤ cv V s by omega) 10).2 _ hle.1 hle.2.1 (by omega) (by omega)
theorem jr_inv (h : OkA t V) (hs : s < 10) (hc : 0 ≤ cv V s) (hn : 0 ≤ now ∧ now ≤ 100000) : ∀ i : Nat, (∀ j, j < i → (jr V now s j).2 ≠ gl V) → (jr V now s i).2 < 10 ∧ 0 ≤ cv V (jr V now s i).2 ∧ i + rkv V (jr V now s i).2 ≤ 9 ∧ 0 ≤ (jr V now s i).1 ∧ (jr V now s i).1 ≤ 100000 + 3200000 * (i : Int) := by
  intro i
  induction i with
  | zero =>
    intro _
    have := (rkF_le (cv V) (cv V s) 10).2 s hs (by omega)
    refine ⟨hs, hc, ?_, hn.1, by show now ≤ 100000 + 3200000 * 0; omega⟩
    show 0 + rkF (cv V) (cv V s) 10 ≤ 9
    omega
  | succ i ih =>
    intro hj
    have ih := ih (fun j hj' => hj j (by omega))
    have hx := jnx_is h ih.1 (hj i (by omega)) ih.2.1 ih.2.2.2.1
    refine ⟨hx.2.1, hx.2.2.1, ?_, hx.2.2.2.2.1, ?_⟩
    · have e : (jr V now s (i + 1)).2 = (jnx V (jr V now s i).1 (jr V now s i).2).2 := rfl
      rw [e]; omega
    · have e : (jr V now s (i + 1)).1 = (jnx V (jr V now s i).1 (jr V now s i).2).1 := rfl
      rw [e]; omega
def IsM (V : Mem) (now : Int) (s m : Nat) : Prop := m ≤ 9 ∧ (jr V now s m).2 = gl V ∧ ∀ j, j < m → (jr V now s j).2 ≠ gl V
theorem IsM_ex (h : OkA t V) (hs : s < 10) (hc : 0 ≤ cv V s) (hn : 0 ≤ now ∧ now ≤ 100000) : ∃ m, IsM V now s m := by
  obtain ⟨m, h1, h2, h3⟩ := first_of (fun m => (jr V now s m).2 = gl V ∨ m = 10) 10 (Or.inr rfl)
  have hi := jr_inv h hs hc hn m (fun j hj e => h3 j hj (Or.inl e))
  refine ⟨m, by omega, ?_, fun j hj e => h3 j hj (Or.inl e)⟩
  rcases h2 with e | e
  · exact e
  · omega
noncomputable def mjv (V : Mem) (now : Int) (s : Nat) : Nat := Classical.epsilon (IsM V now s)
theorem mjv_is (h : OkA t V) (hs : s < 10) (hc : 0 ≤ cv V s) (hn : 0 ≤ now ∧ now ≤ 100000) : IsM V now s (mjv V now s) := Classical.epsilon_spec (IsM_ex h hs hc hn)
noncomputable def dur (V : Mem) (now : Int) (s : Nat) : Int := (jr V now s (mjv V now s)).1 - now
end TIME
