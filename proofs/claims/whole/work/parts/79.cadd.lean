/-! ===== the class takes the lines that it read ===== -/
def ClE (V : Mem) (n0 : Nat) (LS : Nat → zLn) (m : Nat) (u : Int) (cl : Nat → Int) (σ : Mem) : Prop := Tab σ ∧ σ 136 1 = ((n0 + m : Nat) : Int) ∧ σ 136 3 = V 328 10 ∧ σ 136 4 = V 328 11 ∧ σ 136 5 = V 328 12 ∧ σ 136 6 = u ∧ (∀ s, s < 10 → σ (283 + 4 * s) 0 = V 338 s ∧ σ (283 + 4 * s) 1 = cl s) ∧ (∀ l, l < n0 → LnAt V σ l (PL σ l)) ∧ (∀ k, k < m → LnQ (LS k) σ (PL σ (n0 + k))) ∧ σ 1 1 = 0 ∧ RowC V σ
def zT (V : Mem) (i : Nat) : Int := if (i : Int) < V 328 17 then and32 (V 340 i) 255 else -1
def nT (V : Mem) : Nat := (V 328 17).toNat
section CADD
variable {V V' U σ σ' σ'' X W : Mem} {z : Nat → Int} {N a m room c Q fu k j p i t n n0 : Nat} {v x f ch u : Int} {w : zWS} {LS : Nat → zLn} {cl : Nat → Int}
theorem and255 (x : Int) : 0 ≤ and32 x 255 ∧ and32 x 255 ≤ 255 := by
  have e255 : Int32.ofInt 255 = 255 := by decide +kernel
  unfold and32
  rw [e255]
  have h1 : (Int32.ofInt x &&& 255).toBitVec.toNat ≤ 255 := by
    show ((Int32.ofInt x).toBitVec &&& 255#32).toNat ≤ 255
    rw [BitVec.toNat_and]
    exact Nat.and_le_right
  have h2 : (Int32.ofInt x &&& 255).toInt = ((Int32.ofInt x &&& 255).toBitVec.toNat : Int) := by
    show (Int32.ofInt x &&& 255).toBitVec.toInt = _
    exact BitVec.toInt_eq_toNat_of_lt (by omega)
  rw [h2]
  omega
theorem zT_ok (h : OkA t V) : TxZ (zT V) (nT V) := by
  have h17 := h.2.2.2.1
  unfold nT
  refine ⟨by omega, fun i hi => ?_, fun i hi => ?_⟩
  · unfold zT; rw [if_pos (by omega)]; exact and255 _
  · unfold zT; rw [if_neg (by omega)]
theorem pl_s (q : Nat) : pl ((q + 1 : Nat) : Int) = q := by unfold pl; omega
theorem tab_swap (h : Tab σ) (e1 : pl (σ' 136 0) = pl (σ 1 2)) (e2 : pl (σ' 1 2) = pl (σ 136 0)) (e3 : ∀ j, σ' 3 j = σ 3 j) (e4 : ∀ j, σ' 137 j = σ 137 j) : Tab σ' ∧ (∀ l, PL σ' l = QL σ l) ∧ (∀ l, QL σ' l = PL σ l) := by
  have hp : ∀ l, PL σ' l = QL σ l := fun l => by
    unfold PL QL
    rw [e1]
    rcases h.1 with ⟨_, g⟩ | ⟨_, g⟩
    · rw [g, e4]
    · rw [g, e3]
  have hq : ∀ l, QL σ' l = PL σ l := fun l => by
    unfold PL QL
    rw [e2]
    rcases h.1 with ⟨g, _⟩ | ⟨g, _⟩
    · rw [g, e3]
    · rw [g, e4]
  obtain ⟨h1, h2, h3, h4, h5, h6⟩ := h
  exact ⟨⟨by rw [e1, e2]; omega, fun l hl => by rw [hp]; exact h3 l hl, fun l hl => by rw [hq]; exact h2 l hl, fun l m a b => by rw [hp, hp]; exact h5 l m a b, fun l m a b => by rw [hq, hq]; exact h4 l m a b, fun l m a b => by rw [hp, hq]; exact fun e => h6 m l b a e.symm⟩, hp, hq⟩
theorem tab_x (h : Tab σ) {a b : Nat} (ha : a < 12) (hb : b < 12) (e1 : σ' 136 0 = σ 136 0) (e2 : σ' 1 2 = σ 1 2) (hp : ∀ l, PL σ' l = if l = a then QL σ b else PL σ l) (hq : ∀ l, QL σ' l = if l = b then PL σ a else QL σ l) : Tab σ' := by
  obtain ⟨h1, h2, h3, h4, h5, h6⟩ := h
  refine ⟨by rw [e1, e2]; exact h1, fun l hl => ?_, fun l hl => ?_, fun l m hl hm => ?_, fun l m hl hm => ?_, fun l m hl hm => ?_⟩
  · rw [hp]; split
    · exact h3 b hb
    · exact h2 l hl
  · rw [hq]; split
    · exact h2 a ha
    · exact h3 l hl
  · rw [hp, hp]
    by_cases c1 : l = a
    · by_cases c2 : m = a
      · intro _; omega
      · rw [if_pos c1, if_neg c2]; intro e; exact absurd e.symm (h6 m b hm hb)
    · by_cases c2 : m = a
      · rw [if_neg c1, if_pos c2]; intro e; exact absurd e (h6 l b hl hb)
      · rw [if_neg c1, if_neg c2]; exact h4 l m hl hm
  · rw [hq, hq]
    by_cases c1 : l = b
    · by_cases c2 : m = b
      · intro _; omega
      · rw [if_pos c1, if_neg c2]; intro e; exact absurd e (h6 a m ha hm)
    · by_cases c2 : m = b
      · rw [if_neg c1, if_pos c2]; intro e; exact absurd e.symm (h6 a l ha hl)
      · rw [if_neg c1, if_neg c2]; exact h5 l m hl hm
  · rw [hp, hq]
    by_cases c1 : l = a
    · by_cases c2 : m = b
      · rw [if_pos c1, if_pos c2]; exact fun e => h6 a b ha hb e.symm
      · rw [if_pos c1, if_neg c2]; exact fun e => c2 (h5 b m hb hm e).symm
    · by_cases c2 : m = b
      · rw [if_neg c1, if_pos c2]; exact fun e => c1 (h4 l a hl ha e)
      · rw [if_neg c1, if_neg c2]; exact h6 l m hl hm
theorem FrQ.aw (hT : Tab σ) (h : FrQ σ σ') (hk : k ≤ 3 ∨ (130 ≤ k ∧ k ≤ 137) ∨ 264 ≤ k) (hn : ¬ (k = 1 ∧ 3 ≤ j ∧ j ≤ 6)) : σ' k j = σ k j := by
  rcases h k j with e | ⟨q, q1, q2, q3⟩ | e
  · exact absurd e hn
  · have := hT.2.2.1 q q1; omega
  · exact e
theorem FrQ.pl {l : Nat} (hT : Tab σ) (h : FrQ σ σ') (hl : l < 12) (a : PL σ l ≤ k) (b : k ≤ PL σ l + 4) : σ' k j = σ k j := by
  have hP := hT.2.1 l hl
  rcases h k j with e | ⟨q, q1, q2, q3⟩ | e
  · omega
  · have := hT.2.2.1 q q1
    have := hT.2.2.2.2.2 l q hl q1
    omega
  · exact e
theorem Cls.frq (hC : Cls V σ) (ok : OkN V) (g : FrQ σ σ') : Cls V σ' := by
  obtain ⟨h1, h2, h3, h4, h5, h6, h7, h8⟩ := hC
  obtain ⟨t1, t2, t3⟩ := g.tab h1
  have hn := ok.n
  refine ⟨t1, by rw [g.aw h1 (by omega) (by omega)]; exact h2, by rw [g.aw h1 (by omega) (by omega)]; exact h3, by rw [g.aw h1 (by omega) (by omega)]; exact h4, by rw [g.aw h1 (by omega) (by omega)]; exact h5, by rw [g.aw h1 (by omega) (by omega)]; exact h6, fun s hs => by rw [g.aw h1 (by omega) (by omega), g.aw h1 (by omega) (by omega)]; exact h7 s hs, fun l hl => ?_⟩
  rw [t2]
  exact ln_mv (h8 l hl) (h1.2.1 l (by omega)) (fun k j a b => g.pl h1 (l := l) (by omega) a b)
theorem RowC.frq (hT : Tab σ) (h : RowC V σ) (g : FrQ σ σ') : RowC V σ' := ⟨by rw [g.aw hT (by omega) (by omega)]; exact h.1, fun i hi => by rw [g.aw hT (by omega) (by omega)]; exact h.2 i hi⟩
/-- all lines anew -/
theorem c_replace (hfu : 1000 < fu) (hQ : ClQ LS m σ) (hC : Cls V σ) (h11 : σ 1 1 = 0) (hR : RowC V σ) : wp (fX2_replaceLines fu σ) (fun _ σ' => ClE V 0 LS m 0 (fun _ => 0) σ' ∧ Hi σ σ') := by
  obtain ⟨q1, q2, q3, q4⟩ := hQ
  obtain ⟨c1, c2, c3, c4, c5, c6, c7, c8⟩ := hC
  unfold fX2_replaceLines
  refine wp_rfd (wp_rfd (wp_stf (wp_stf (wp_stf (wp_stf ?_)))))
  have e13 : mset (mset σ 136 0 ((pl (σ 1 2) + 1 : Nat) : Int)) 1 2 ((pl (σ 136 0) + 1 : Nat) : Int) 1 3 = (m : Int) := by rw [ms_j (by omega), ms_k (by omega)]; exact q2
  rw [e13]
  have k1 : pl (mset (mset (mset (mset σ 136 0 ((pl (σ 1 2) + 1 : Nat) : Int)) 1 2 ((pl (σ 136 0) + 1 : Nat) : Int)) 136 1 (m : Int)) 136 6 0 136 0) = pl (σ 1 2) := by
    rw [ms_j (by omega), ms_j (by omega), ms_k (by omega), ms_eq]; exact pl_s _
  have k2 : pl (mset (mset (mset (mset σ 136 0 ((pl (σ 1 2) + 1 : Nat) : Int)) 1 2 ((pl (σ 136 0) + 1 : Nat) : Int)) 136 1 (m : Int)) 136 6 0 1 2) = pl (σ 136 0) := by
    rw [ms_k (by omega), ms_k (by omega), ms_eq]; exact pl_s _
  have k3 : ∀ k j, (k ≠ 1 ∨ j ≠ 2) → (k ≠ 136 ∨ (j ≠ 0 ∧ j ≠ 1 ∧ j ≠ 6)) → mset (mset (mset (mset σ 136 0 ((pl (σ 1 2) + 1 : Nat) : Int)) 1 2 ((pl (σ 136 0) + 1 : Nat) : Int)) 136 1 (m : Int)) 136 6 0 k j = σ k j := fun k j b1 b2 => by
    rw [mset_eq, if_neg (by omega), mset_eq, if_neg (by omega), mset_eq, if_neg (by omega), mset_eq, if_neg (by omega)]
  have k4 : mset (mset (mset (mset σ 136 0 ((pl (σ 1 2) + 1 : Nat) : Int)) 1 2 ((pl (σ 136 0) + 1 : Nat) : Int)) 136 1 (m : Int)) 136 6 0 136 1 = (m : Int) := by rw [ms_j (by omega), ms_eq]
  have k5 : mset (mset (mset (mset σ 136 0 ((pl (σ 1 2) + 1 : Nat) : Int)) 1 2 ((pl (σ 136 0) + 1 : Nat) : Int)) 136 1 (m : Int)) 136 6 0 136 6 = 0 := ms_eq _ _ _ _
  generalize mset (mset (mset (mset σ 136 0 ((pl (σ 1 2) + 1 : Nat) : Int)) 1 2 ((pl (σ 136 0) + 1 : Nat) : Int)) 136 1 (m : Int)) 136 6 0 = s4 at *
  refine for1 (f := fX2_replaceLines_L33 fu _) 10 (fun i s => (∀ q, q < i → s (283 + 4 * q) 1 = 0) ∧ ∀ k j, (283 ≤ k ∧ k < 323 ∧ j = 1) ∨ s k j = s4 k j) ?_ ?_ (i := 0) ⟨fun q hq => by omega, fun k j => Or.inr rfl⟩
  · intro n i s hi ⟨j1, j2⟩ hrec
    rw [fX2_replaceLines_L33]
    refine iLe (fun h => by omega) (fun _ => ?_)
    refine rS i rfl hi (wp_stz (Or.inl rfl) (hrec _ ⟨fun q hq => ?_, fun k j => ?_⟩))
    · by_cases e : q = i
      · rw [e, ms_eq]
      · rw [ms_k (by omega)]; exact j1 q (by omega)
    · by_cases e : k = 283 + 4 * i ∧ j = 1
      · left; omega
      · rw [mset_eq, if_neg e]; exact j2 k j
  · intro n s ⟨j1, j2⟩
    rw [fX2_replaceLines_L33]
    refine iLe (fun _ => ?_) (fun h => by omega)
    have ee : ∀ k j, k < 283 ∨ 323 ≤ k ∨ j ≠ 1 → s k j = s4 k j := fun k j hk => by have := j2 k j; omega
    obtain ⟨t1, t2, t3⟩ := tab_swap q1 (σ' := s) (by rw [ee _ _ (by omega)]; exact k1) (by rw [ee _ _ (by omega)]; exact k2) (fun j => by rw [ee _ _ (by omega)]; exact k3 _ _ (by omega) (by omega)) (fun j => by rw [ee _ _ (by omega)]; exact k3 _ _ (by omega) (by omega))
    have e0 : ∀ k j, k < 283 ∨ 323 ≤ k ∨ j ≠ 1 → (k ≠ 1 ∨ j ≠ 2) → (k ≠ 136 ∨ (j ≠ 0 ∧ j ≠ 1 ∧ j ≠ 6)) → s k j = σ k j := fun k j a b c => (ee k j a).trans (k3 k j b c)
    refine wp_some ⟨⟨t1, ?_, ?_, ?_, ?_, ?_, fun q hq => ⟨?_, j1 q hq⟩, fun l hl => by omega, fun k hk => ?_, ?_, ?_, fun i hi => ?_⟩, fun k j hk => e0 k j (by omega) (by omega) (by omega)⟩
    · rw [ee _ _ (by omega), k4]; omega
    · rw [e0 _ _ (by omega) (by omega) (by omega)]; exact c3
    · rw [e0 _ _ (by omega) (by omega) (by omega)]; exact c4
    · rw [e0 _ _ (by omega) (by omega) (by omega)]; exact c5
    · rw [ee _ _ (by omega), k5]
    · rw [e0 _ _ (by omega) (by omega) (by omega)]; exact (c7 q hq).1
    · rw [t2, Nat.zero_add]
      have hq := q1.2.2.1 k (by omega)
      exact (q4 k hk).mv (fun k' j' a b => e0 _ _ (by omega) (by omega) (by omega))
    · rw [e0 _ _ (by omega) (by omega) (by omega)]; exact h11
    · rw [e0 _ _ (by omega) (by omega) (by omega)]; exact hR.1
    · rw [e0 _ _ (by omega) (by omega) (by omega)]; exact hR.2 i hi
/-- lines behind the others -/
theorem c_append (hfu : 1000 < fu) (ok : OkN V) (hQ : ClQ LS m σ) (hC : Cls V σ) (h11 : σ 1 1 = 0) (hR : RowC V σ) (hm : nn V + m ≤ 12) : wp (fX2_appendLines fu σ) (fun _ σ' => ClE V (nn V) LS m (V 328 13) (fun s => V 339 s) σ' ∧ Hi σ σ') := by
  obtain ⟨q1, q2, q3, q4⟩ := hQ
  obtain ⟨c1, c2, c3, c4, c5, c6, c7, c8⟩ := hC
  have hn := ok.n
  unfold fX2_appendLines
  refine for1 (f := fX2_appendLines_L2 fu _) m (fun i s => Tab s ∧ s 136 1 = ((nn V + i : Nat) : Int) ∧ (∀ l, l < nn V → PL s l = PL σ l) ∧ (∀ k, k < i → PL s (nn V + k) = QL σ k) ∧ (∀ k, i ≤ k → QL s k = QL σ k) ∧ ∀ k j, (k = 136 ∧ j = 1) ∨ k = 3 ∨ k = 137 ∨ s k j = σ k j) ?_ ?_ (i := 0) ⟨q1, by rw [c2]; unfold nn; omega, fun _ _ => rfl, fun k hk => by omega, fun _ _ => rfl, fun k j => by simp⟩
  · intro n i s hi ⟨j1, j2, j3, j4, j5, j6⟩ hrec
    rw [fX2_appendLines_L2]
    have e13 : s 1 3 = (m : Int) := by rw [← q2]; have := j6 1 3; omega
    rw [e13, j2]
    refine iLe (fun h => by omega) (fun _ => ?_)
    refine iLe (fun h => by omega) (fun _ => ?_)
    refine wp_rfd (rR (nn V + i) rfl (by omega) (wp_rfd (wp_rfd (rR i rfl (by omega) ?_))))
    rw [show pl (s (pl (s 1 2)) i) = QL s i from rfl, show pl (s (pl (s 136 0)) (nn V + i)) = PL s (nn V + i) from rfl]
    have hA : pl (s 136 0) = 3 ∨ pl (s 136 0) = 137 := by have := j1.1; omega
    have hB : pl (s 1 2) = 3 ∨ pl (s 1 2) = 137 := by have := j1.1; omega
    have hAB : pl (s 136 0) ≠ pl (s 1 2) := by have := j1.1; omega
    refine wI (nn V + i) rfl (by omega) (wp_rfd ?_)
    rw [ms_k (show (1 : Nat) ≠ pl (s 136 0) by omega)]
    refine wI i rfl (by omega) (wp_stf ?_)
    rw [ms_k (show (136 : Nat) ≠ pl (s 1 2) by omega), ms_k (show (136 : Nat) ≠ pl (s 136 0) by omega), j2]
    have e136 : mset (mset (mset s (pl (s 136 0)) (nn V + i) ((QL s i + 1 : Nat) : Int)) (pl (s 1 2)) i ((PL s (nn V + i) + 1 : Nat) : Int)) 136 1 (((nn V + i : Nat) : Int) + 1) 136 0 = s 136 0 := by
      rw [ms_j (by omega), ms_k (by omega), ms_k (by omega)]
    have e12 : mset (mset (mset s (pl (s 136 0)) (nn V + i) ((QL s i + 1 : Nat) : Int)) (pl (s 1 2)) i ((PL s (nn V + i) + 1 : Nat) : Int)) 136 1 (((nn V + i : Nat) : Int) + 1) 1 2 = s 1 2 := by
      rw [ms_k (by omega), ms_k (by omega), ms_k (by omega)]
    have hp : ∀ l, PL (mset (mset (mset s (pl (s 136 0)) (nn V + i) ((QL s i + 1 : Nat) : Int)) (pl (s 1 2)) i ((PL s (nn V + i) + 1 : Nat) : Int)) 136 1 (((nn V + i : Nat) : Int) + 1)) l = if l = nn V + i then QL s i else PL s l := fun l => by
      rw [PL, e136, ms_k (by omega), ms_k hAB]
      by_cases e : l = nn V + i
      · rw [if_pos e, e, ms_eq]; exact pl_s _
      · rw [if_neg e, ms_j e]; rfl
    have hq : ∀ l, QL (mset (mset (mset s (pl (s 136 0)) (nn V + i) ((QL s i + 1 : Nat) : Int)) (pl (s 1 2)) i ((PL s (nn V + i) + 1 : Nat) : Int)) 136 1 (((nn V + i : Nat) : Int) + 1)) l = if l = i then PL s (nn V + i) else QL s l := fun l => by
      rw [QL, e12, ms_k (by omega)]
      by_cases e : l = i
      · rw [if_pos e, e, ms_eq]; exact pl_s _
      · rw [if_neg e, ms_j e, ms_k (fun q => hAB q.symm)]; rfl
    have hfr : ∀ k j, (k = 136 ∧ j = 1) ∨ k = 3 ∨ k = 137 ∨ mset (mset (mset s (pl (s 136 0)) (nn V + i) ((QL s i + 1 : Nat) : Int)) (pl (s 1 2)) i ((PL s (nn V + i) + 1 : Nat) : Int)) 136 1 (((nn V + i : Nat) : Int) + 1) k j = σ k j := fun k j => by
      by_cases e : (k = 136 ∧ j = 1) ∨ k = 3 ∨ k = 137
      · omega
      · rw [mset_eq, if_neg (by omega), ms_k (by omega), ms_k (by omega)]; exact j6 k j
    have h1' : mset (mset (mset s (pl (s 136 0)) (nn V + i) ((QL s i + 1 : Nat) : Int)) (pl (s 1 2)) i ((PL s (nn V + i) + 1 : Nat) : Int)) 136 1 (((nn V + i : Nat) : Int) + 1) 136 1 = ((nn V + (i + 1) : Nat) : Int) := by rw [ms_eq]; omega
    refine hrec _ ⟨tab_x j1 (a := nn V + i) (b := i) (by omega) (by omega) e136 e12 hp hq, h1', fun l hl => ?_, fun k hk => ?_, fun k hk => ?_, hfr⟩
    · rw [hp, if_neg (by omega)]; exact j3 l hl
    · rw [hp]
      by_cases e : k = i
      · rw [if_pos (by omega), e]; exact j5 i (by omega)
      · rw [if_neg (by omega)]; exact j4 k (by omega)
    · rw [hq, if_neg (by omega)]; exact j5 k (by omega)
  · intro n s ⟨j1, j2, j3, j4, j5, j6⟩
    rw [fX2_appendLines_L2]
    have e13 : s 1 3 = (m : Int) := by rw [← q2]; have := j6 1 3; omega
    rw [e13]
    refine iLe (fun _ => ?_) (fun h => by omega)
    have e0 : ∀ k j, ¬ (k = 136 ∧ j = 1) → k ≠ 3 → k ≠ 137 → s k j = σ k j := fun k j a b c => by have := j6 k j; omega
    refine wp_some ⟨⟨j1, j2, ?_, ?_, ?_, ?_, fun q hq => ⟨?_, ?_⟩, fun l hl => ?_, fun k hk => ?_, ?_, ?_, fun i hi => ?_⟩, fun k j hk => e0 k j (by omega) (by omega) (by omega)⟩
    · rw [e0 _ _ (by omega) (by omega) (by omega)]; exact c3
    · rw [e0 _ _ (by omega) (by omega) (by omega)]; exact c4
    · rw [e0 _ _ (by omega) (by omega) (by omega)]; exact c5
    · rw [e0 _ _ (by omega) (by omega) (by omega)]; exact c6
    · rw [e0 _ _ (by omega) (by omega) (by omega)]; exact (c7 q hq).1
    · rw [e0 _ _ (by omega) (by omega) (by omega)]; exact (c7 q hq).2
    · rw [j3 l hl]
      have hP := c1.2.1 l (by omega)
      exact ln_mv (c8 l hl) hP (fun k j a b => e0 _ _ (by omega) (by omega) (by omega))
    · rw [j4 k hk]
      have hq := q1.2.2.1 k (by omega)
      exact (q4 k hk).mv (fun k' j' a b => e0 _ _ (by omega) (by omega) (by omega))
    · rw [e0 _ _ (by omega) (by omega) (by omega)]; exact h11
    · rw [e0 _ _ (by omega) (by omega) (by omega)]; exact hR.1
    · rw [e0 _ _ (by omega) (by omega) (by omega)]; exact hR.2 i hi
theorem tx0_ag : AgN V (mset V 328 17 0) := ⟨fun j hj => ms_j (by omega), fun k j h1 h2 => ms_k (by omega)⟩
theorem tx0_ok (h : OkA t V) : OkA t (mset V 328 17 0) := by
  have ag := tx0_ag (V := V)
  refine ⟨ag.ok h.1, by rw [ag.1 37 (by omega)]; exact h.2.1, ⟨by rw [ag.1 13 (by omega)]; exact h.2.2.1.1, by rw [ag.1 13 (by omega)]; exact h.2.2.1.2.1, ag.st h.2.2.1.2.2⟩, by rw [ms_eq]; omega, by rw [ms_j (by omega)]; exact h.2.2.2.2⟩
/-- the text forgotten, nothing else done -/
theorem c_tx0 (ok : OkN V) (hC : ClsA V σ) (g : FrQ σ σ') : ClsA (mset V 328 17 0) (mset σ' 1 1 0) ∧ Cls V (mset σ' 1 1 0) ∧ RowC V (mset σ' 1 1 0) ∧ Hi σ (mset σ' 1 1 0) := by
  have h1 : Cls V (mset σ' 1 1 0) := (hC.1.frq ok g).gen ok (fun k j _ _ hk _ => by rw [mset_eq, if_neg (by omega)])
  have h2 : RowC V (mset σ' 1 1 0) := by
    have := hC.2.2.frq hC.1.1 g
    exact ⟨by rw [ms_k (by omega)]; exact this.1, fun i hi => by rw [ms_k (by omega)]; exact this.2 i hi⟩
  refine ⟨⟨tx0_ag.cls h1, ⟨by rw [ms_eq, ms_eq], fun i hi => by rw [ms_eq] at hi; omega⟩, ⟨h2.1.trans (ms_j (show (19 : Nat) ≠ 17 by omega)).symm, fun i hi => (h2.2 i (by rw [ms_j (show (19 : Nat) ≠ 17 by omega)] at hi; exact hi)).trans (ms_k (show (341 : Nat) ≠ 328 by omega)).symm⟩⟩, h1, h2, fun k j hk => ?_⟩
  rw [ms_k (by omega)]; exact g.aw hC.1.1 (by omega) (by omega)
theorem c_net (h : OkA t V) (hfu : 1000 < fu) (hC : ClsA V σ) : wp (fX6_net fu σ) (fun r σ' => Hi σ σ' ∧ (((netE (zT V) (nT V)).1 ≠ -1 ∧ r = -21 - (netE (zT V) (nT V)).1 ∧ ClsA (mset V 328 17 0) σ') ∨ ((netE (zT V) (nT V)).1 = -1 ∧ r = ((netE (zT V) (nT V)).2.2 : Int) ∧ ClE V 0 (netE (zT V) (nT V)).2.1 (netE (zT V) (nT V)).2.2 0 (fun _ => 0) σ'))) := by
  have h17 := h.2.2.2.1
  unfold fX6_net
  refine wp_bnd _ (c_lines (zT_ok h) hfu hC.1.1 (by rw [hC.2.1.1]; unfold nT; omega) (fun i hi => ?_)) ?_
  · have hi2 : (i : Int) < V 328 17 := by unfold nT at hi; omega
    rw [hC.2.1.2 i hi2]; unfold zT; rw [if_pos hi2]
  · rintro r s1 ⟨g1, f1⟩
    obtain ⟨d1, d2, d3, d4⟩ := c_tx0 h.1 hC f1
    refine wp_stf ?_
    rcases g1 with ⟨rfl, g1, g1'⟩ | ⟨rfl, g1, g1'⟩
    · refine iNe0 (fun g => absurd rfl g) (fun _ => ?_)
      refine wp_some ⟨d4, Or.inl ⟨g1, by rw [ms_j (by omega), g1'], d1⟩⟩
    · refine iNe0 (fun _ => ?_) (fun g => by omega)
      have hQ := g1'.s1 (j := 1) (v := 0) (by omega) (by omega)
      refine wp_bnd _ (c_replace hfu hQ d2 (ms_eq _ _ _ _) d3) ?_
      rintro _ s3 ⟨e1, e2⟩
      refine wp_some ⟨d4.trans e2, Or.inr ⟨g1, ?_, e1⟩⟩
      rw [e1.2.1, Nat.zero_add]
theorem enE_m {r : Int × Nat × (Nat → zLn) × Nat} : (enE N r).2.2 = r.2.2.2 := by unfold enE; split; rfl; split <;> rfl
theorem addE_m (h : TxZ z N) (e : (addE z N room).1 = -1) : (addE z N room).2.2 ≤ room := by
  by_cases g : rlW z 0 0 room ≠ -1
  · have ee : addE z N room = (rlW z 0 0 room, lnZ, 0) := if_pos g
    rw [ee]; show 0 ≤ room; omega
  · have ee : addE z N room = enE N (-1, rlA z 0, adL z 0 lnZ 0, adM z 0 0) := if_neg g
    rw [ee, enE_m]
    exact (adM_le h (by omega)).2
theorem c_adds (h : OkA t V) (hfu : 1000 < fu) (hC : ClsA V σ) : wp (fX6_adds fu σ) (fun r σ' => Hi σ σ' ∧ (((addE (zT V) (nT V) (12 - nn V)).1 ≠ -1 ∧ r = -21 - (addE (zT V) (nT V) (12 - nn V)).1 ∧ ClsA (mset V 328 17 0) σ') ∨ ((addE (zT V) (nT V) (12 - nn V)).1 = -1 ∧ r = ((nn V + (addE (zT V) (nT V) (12 - nn V)).2.2 : Nat) : Int) ∧ ClE V (nn V) (addE (zT V) (nT V) (12 - nn V)).2.1 (addE (zT V) (nT V) (12 - nn V)).2.2 (V 328 13) (fun s => V 339 s) σ'))) := by
  have h17 := h.2.2.2.1
  have hn := h.1.n
  have h9 := h.1.1
  unfold fX6_adds
  rw [show (12 : Int) - σ 136 1 = ((12 - nn V : Nat) : Int) by rw [hC.1.2.1]; unfold nn; omega]
  refine wp_bnd _ (c_one (room := 12 - nn V) (zT_ok h) hfu hC.1.1 (by rw [hC.2.1.1]; unfold nT; omega) (fun i hi => ?_) (by omega)) ?_
  · have hi2 : (i : Int) < V 328 17 := by unfold nT at hi; omega
    rw [hC.2.1.2 i hi2]; unfold zT; rw [if_pos hi2]
  · rintro r s1 ⟨g1, f1⟩
    obtain ⟨d1, d2, d3, d4⟩ := c_tx0 h.1 hC f1
    refine wp_stf ?_
    rcases g1 with ⟨rfl, g1, g1'⟩ | ⟨rfl, g1, g1'⟩
    · refine iNe0 (fun g => absurd rfl g) (fun _ => ?_)
      refine wp_some ⟨d4, Or.inl ⟨g1, by rw [ms_j (by omega), g1'], d1⟩⟩
    · refine iNe0 (fun _ => ?_) (fun g => by omega)
      have hQ := g1'.s1 (j := 1) (v := 0) (by omega) (by omega)
      have hm := addE_m (zT_ok h) g1
      refine wp_bnd _ (c_append hfu h.1 hQ d2 (ms_eq _ _ _ _) d3 (by omega)) ?_
      rintro _ s3 ⟨e1, e2⟩
      exact wp_some ⟨d4.trans e2, Or.inr ⟨g1, e1.2.1, e1⟩⟩
end CADD
