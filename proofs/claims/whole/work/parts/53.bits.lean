/-! ===== bits ===== -/
def bc1 (x : Int) : Int := x - (and32 (ushr32 x 1) 1431655765)
def bc2 (x : Int) : Int := (and32 x 858993459) + (and32 (ushr32 x 2) 858993459)
def bc3 (x : Int) : Int := and32 (x + (ushr32 x 4)) 252645135
def bc4 (x : Int) : Int := x + (ushr32 x 8)
def bc5 (x : Int) : Int := x + (ushr32 x 16)
def bcn (x : Int) : Int := and32 (bc5 (bc4 (bc3 (bc2 (bc1 x))))) 63
theorem c_bitCount (fu : Nat) (σ : Mem) (x : Int) : wp (fJ6_bitCount_0f7a4 fu x σ) (fun r σ' => r = bcn x ∧ σ = σ') := by
  unfold fJ6_bitCount_0f7a4
  exact wp_lt (wp_lt (wp_lt (wp_lt (wp_lt (wp_some ⟨rfl, rfl⟩)))))
def bts (f : Nat → Int) : Nat → Int
  | 0 => 0
  | n + 1 => or32 (bts f n) (shl32 (f n) (n : Int))
def smf (f : Nat → Int) : Nat → Int
  | 0 => 0
  | n + 1 => smf f n + f n
set_option maxRecDepth 100000 in
theorem bits_or : ∀ n : Nat, n < 12 → ∀ m : Nat, m < 2 ^ n → or32 (m : Int) (shl32 1 (n : Int)) = ((m + 2 ^ n : Nat) : Int) ∧ or32 (m : Int) (shl32 0 (n : Int)) = (m : Int) := by decide +kernel
set_option maxRecDepth 100000 in
theorem bits_bc : ∀ n : Nat, n < 12 → ∀ m : Nat, m < 2 ^ n → bcn ((m + 2 ^ n : Nat) : Int) = bcn (m : Int) + 1 := by decide +kernel
theorem bcn_0 : bcn 0 = 0 := by decide +kernel
theorem bts_nat {f : Nat → Int} : ∀ n, n ≤ 12 → (∀ i, i < n → f i = 0 ∨ f i = 1) → ∃ m : Nat, m < 2 ^ n ∧ bts f n = (m : Int) ∧ bcn (m : Int) = smf f n := by
  intro n
  induction n with
  | zero => intro _ _; exact ⟨0, by decide, rfl, bcn_0⟩
  | succ n ih =>
    intro hn hf
    obtain ⟨m, h1, h2, h3⟩ := ih (by omega) (fun i hi => hf i (by omega))
    have hb := bits_or n (by omega) m h1
    have hc := bits_bc n (by omega) m h1
    have hp : 2 ^ (n + 1) = 2 ^ n + 2 ^ n := by rw [Nat.pow_succ]; omega
    rcases hf n (by omega) with e | e
    · refine ⟨m, by omega, ?_, ?_⟩
      · simp only [bts]; rw [h2, e, hb.2]
      · simp only [smf]; rw [h3, e]; omega
    · refine ⟨m + 2 ^ n, by omega, ?_, ?_⟩
      · simp only [bts]; rw [h2, e, hb.1]
      · simp only [smf]; rw [hc, h3, e]
theorem bts_bc {f : Nat → Int} {n : Nat} (hn : n ≤ 12) (hf : ∀ i, i < n → f i = 0 ∨ f i = 1) : bcn (bts f n) = smf f n := by
  obtain ⟨m, h1, h2, h3⟩ := bts_nat n hn hf
  rw [h2, h3]
theorem bts_b {f : Nat → Int} {n : Nat} (hn : n ≤ 12) (hf : ∀ i, i < n → f i = 0 ∨ f i = 1) : 0 ≤ bts f n ∧ bts f n < 4096 := by
  obtain ⟨m, h1, h2, h3⟩ := bts_nat n hn hf
  have : 2 ^ n ≤ 2 ^ 12 := Nat.pow_le_pow_right (by omega) hn
  rw [h2]
  omega
theorem smf_b {f : Nat → Int} : ∀ n : Nat, (∀ i, i < n → f i = 0 ∨ f i = 1) → 0 ≤ smf f n ∧ smf f n ≤ (n : Int) := by
  intro n
  induction n with
  | zero => intro _; simp [smf]
  | succ n ih =>
    intro hf
    have := ih (fun i hi => hf i (by omega))
    have := hf n (by omega)
    simp only [smf]
    omega
theorem bts_0 {f : Nat → Int} {n : Nat} (hn : n < 12) (hf : ∀ i, i < n → f i = 0 ∨ f i = 1) : or32 (bts f n) 0 = bts f n ∧ or32 (bts f n) (shl32 0 (n : Int)) = bts f n := by
  obtain ⟨m, h1, h2, h3⟩ := bts_nat n (by omega) hf
  have h0 : shl32 0 (n : Int) = 0 := (by decide +kernel : ∀ n : Nat, n < 12 → shl32 0 (n : Int) = 0) n hn
  have hb := (bits_or n hn m h1).2
  rw [h2, hb]
  rw [h0] at hb
  exact ⟨hb, rfl⟩
theorem shl0 {n : Nat} (hn : n < 12) : shl32 0 (n : Int) = 0 := (by decide +kernel : ∀ n : Nat, n < 12 → shl32 0 (n : Int) = 0) n hn
section BITS
variable {V V' σ σ' : Mem} {t k j l s fu : Nat} {a b v r : Int}
theorem c_outLines (ok : OkN V) (hfu : 1000 < fu) (hC : Cls V σ) : wp (fX2_outLines fu σ) (fun r σ' => r = bts (V 337) (nn V) ∧ σ = σ') := by
  have hn := ok.n
  unfold fX2_outLines
  refine for2 (f := fX2_outLines_L4 fu _) (nn V) (fun i a s => a = bts (V 337) i ∧ σ = s) ?_ ?_ (i := 0) ⟨rfl, rfl⟩
  · rintro n i a s hi ⟨rfl, rfl⟩ hrec
    have hL := hC.ln hi
    have h01 := (ok.ok hi).2.2.2.2.1
    rw [fX2_outLines_L4, hC.2.1]
    refine iLe (fun h => by omega) (fun _ => ?_)
    refine wp_rfd (rR i rfl (by omega) ?_)
    rw [show pl (σ (pl (σ 136 0)) i) = PL σ i from rfl, hL.2.2.2.2.1]
    refine wp_bnd _ (c_bit fu σ h01) ?_
    rintro x s' ⟨rfl, rfl⟩
    exact wp_lt (hrec _ _ ⟨rfl, rfl⟩)
  · rintro n a s ⟨rfl, rfl⟩
    rw [fX2_outLines_L4, hC.2.1]
    exact iLe (fun _ => wp_some ⟨rfl, rfl⟩) (fun h => by omega)
theorem c_closedStops (ok : OkN V) (hfu : 1000 < fu) (hC : Cls V σ) : wp (fX2_closedStops fu σ) (fun r σ' => r = bts (V 339) 10 ∧ σ = σ') := by
  unfold fX2_closedStops
  refine for2 (f := fX2_closedStops_L4 fu _) 10 (fun i a s => a = bts (V 339) i ∧ σ = s) ?_ ?_ (i := 0) ⟨rfl, rfl⟩
  · rintro n i a s hi ⟨rfl, rfl⟩ hrec
    have h01 := (ok.2.2.2.2.1 i hi).2
    rw [fX2_closedStops_L4]
    refine iLe (fun h => by omega) (fun _ => ?_)
    refine rS i rfl hi ?_
    rw [(hC.2.2.2.2.2.2.1 i hi).2]
    refine wp_bnd _ (c_bit fu σ h01) ?_
    rintro x s' ⟨rfl, rfl⟩
    exact wp_lt (hrec _ _ ⟨rfl, rfl⟩)
  · rintro n a s ⟨rfl, rfl⟩
    rw [fX2_closedStops_L4]
    exact iLe (fun _ => wp_some ⟨rfl, rfl⟩) (fun h => by omega)
theorem r_outBits (ok : OkN V) (hfu : 1000 < fu) (hR : Ref V σ) : wp (fX7_outBits fu σ) (fun r σ' => r = bts (V 337) (nn V) ∧ σ = σ') := by
  have hn := ok.n
  have hf : ∀ i, i < nn V → V 337 i = 0 ∨ V 337 i = 1 := fun i hi => (ok.ok hi).2.2.2.2.1
  unfold fX7_outBits
  refine for2 (f := fX7_outBits_L4 fu _) (nn V) (fun i a s => a = bts (V 337) i ∧ σ = s) ?_ ?_ (i := 0) ⟨rfl, rfl⟩
  · rintro n i a s hi ⟨rfl, rfl⟩ hrec
    have h01 := hf i hi
    have hz := shl0 (n := i) (by omega)
    rw [fX7_outBits_L4, hR.j (by omega)]
    refine iLe (fun h => by omega) (fun _ => ?_)
    refine rI i rfl (by omega) ?_
    rw [hR.2 337 _ (by omega) (by omega)]
    refine wp_jn (iEq0 (fun h => ?_) (fun h => ?_))
    · exact wp_lt (hrec _ _ ⟨by simp only [bts]; rw [h, hz], rfl⟩)
    · exact wp_lt (hrec _ _ ⟨by simp only [bts]; rw [show V 337 i = 1 by omega], rfl⟩)
  · rintro n a s ⟨rfl, rfl⟩
    rw [fX7_outBits_L4, hR.j (by omega)]
    exact iLe (fun _ => wp_some ⟨rfl, rfl⟩) (fun h => by omega)
theorem r_closedBits (ok : OkN V) (hfu : 1000 < fu) (hR : Ref V σ) : wp (fX7_closedBits fu σ) (fun r σ' => r = bts (V 339) 10 ∧ σ = σ') := by
  have hf : ∀ i, i < 10 → V 339 i = 0 ∨ V 339 i = 1 := fun i hi => (ok.2.2.2.2.1 i hi).2
  unfold fX7_closedBits
  refine for2 (f := fX7_closedBits_L4 fu _) 10 (fun i a s => a = bts (V 339) i ∧ σ = s) ?_ ?_ (i := 0) ⟨rfl, rfl⟩
  · rintro n i a s hi ⟨rfl, rfl⟩ hrec
    have h01 := hf i hi
    have hz := shl0 (n := i) (by omega)
    rw [fX7_closedBits_L4]
    refine iLe (fun h => by omega) (fun _ => ?_)
    refine rI i rfl (by omega) ?_
    rw [hR.2 339 _ (by omega) (by omega)]
    refine wp_jn (iEq0 (fun h => ?_) (fun h => ?_))
    · exact wp_lt (hrec _ _ ⟨by simp only [bts]; rw [h, hz], rfl⟩)
    · exact wp_lt (hrec _ _ ⟨by simp only [bts]; rw [show V 339 i = 1 by omega], rfl⟩)
  · rintro n a s ⟨rfl, rfl⟩
    rw [fX7_closedBits_L4]
    exact iLe (fun _ => wp_some ⟨rfl, rfl⟩) (fun h => by omega)
theorem r_outMany (ok : OkN V) (hfu : 1000 < fu) (hR : Ref V σ) : wp (fX7_outMany fu σ) (fun r σ' => r = smf (V 337) (nn V) ∧ σ = σ') := by
  have hn := ok.n
  have hf : ∀ i, i < nn V → V 337 i = 0 ∨ V 337 i = 1 := fun i hi => (ok.ok hi).2.2.2.2.1
  unfold fX7_outMany
  refine for2 (f := fX7_outMany_L4 fu _) (nn V) (fun i a s => a = smf (V 337) i ∧ σ = s) ?_ ?_ (i := 0) ⟨rfl, rfl⟩
  · rintro n i a s hi ⟨rfl, rfl⟩ hrec
    have h01 := hf i hi
    rw [fX7_outMany_L4, hR.j (by omega)]
    refine iLe (fun h => by omega) (fun _ => ?_)
    refine rI i rfl (by omega) ?_
    rw [hR.2 337 _ (by omega) (by omega)]
    refine wp_jn (iEq0 (fun h => ?_) (fun h => ?_))
    · exact wp_lt (hrec _ _ ⟨by simp only [smf]; rw [h], rfl⟩)
    · exact wp_lt (hrec _ _ ⟨by simp only [smf]; rw [show V 337 i = 1 by omega], rfl⟩)
  · rintro n a s ⟨rfl, rfl⟩
    rw [fX7_outMany_L4, hR.j (by omega)]
    exact iLe (fun _ => wp_some ⟨rfl, rfl⟩) (fun h => by omega)
theorem n1_id (h : v = 0 ∨ v = 1) : n1 v = v := by
  rcases h with rfl | rfl
  · exact n1_0
  · exact n1_1
theorem op_out (h : OkA t V) (hfu : 1000 < fu) (ha : R32 a) (hb : b = 0 ∨ b = 1) : Op t V (fX6_out fu a b) (fX7_out fu a b) := by
  have hn := h.1.n
  by_cases hc : 0 ≤ a ∧ a < V 328 9
  · obtain ⟨l, rfl⟩ := Int.eq_ofNat_of_zero_le hc.1
    have hl : l < nn V := by omega
    have h337 := (h.1.ok hl).2.2.2.2.1
    by_cases hd : V 337 l = b
    · refine op_same h (-2) (fun σ hC => ?_) (fun σ hR => ?_)
      · unfold fX6_out
        refine wp_bnd _ (c_hasLine h.1 hC.1 ha) ?_
        rintro x s' ⟨h0, h1, rfl⟩
        refine iNe0 (fun _ => ?_) (fun h => by omega)
        refine wp_rfd (rR l rfl (by omega) ?_)
        rw [show pl (σ (pl (σ 136 0)) l) = PL σ l from rfl, (hC.1.ln hl).2.2.2.2.1]
        exact iNe (fun g => absurd hd g) (fun _ => wp_some ⟨rfl, CP.refl σ⟩)
      · unfold fX7_out
        refine wp_stf ?_
        refine wp_bnd _ (r_isLine h.1 hR.s20.1 ha) ?_
        rintro x s' ⟨h0, h1, rfl⟩
        refine iNe0 (fun _ => ?_) (fun h => by omega)
        refine rI l rfl (by omega) ?_
        rw [hR.s20.1.2 337 _ (by omega) (by omega)]
        exact iNe (fun g => absurd hd g) (fun _ => wp_some ⟨rfl, rp20 σ 0⟩)
    · have ok' := okA_setL (a := b) (k := 337) h hl (by omega)
      have hf : ∀ i, i < nn (mset V 337 l b) → mset V 337 l b 337 i = 0 ∨ mset V 337 l b 337 i = 1 := fun i hi => (ok'.1.ok hi).2.2.2.2.1
      refine ⟨smf (mset V 337 l b 337) (nn (mset V 337 l b)), mset V 337 l b, ok', fun σ hC => ?_, fun σ hR => ?_⟩
      · unfold fX6_out
        refine wp_bnd _ (c_hasLine h.1 hC.1 ha) ?_
        rintro x s' ⟨h0, h1, rfl⟩
        refine iNe0 (fun _ => ?_) (fun h => by omega)
        refine wp_rfd (rR l rfl (by omega) ?_)
        rw [show pl (σ (pl (σ 136 0)) l) = PL σ l from rfl, (hC.1.ln hl).2.2.2.2.1]
        refine iNe (fun g => ?_) (fun g => absurd g hd)
        refine wp_rfd (rR l rfl (by omega) ?_)
        refine wp_stz hb ?_
        have hC' : ClsA (mset V 337 l b) (mset σ (PL σ l) 4 b) := clsA_setL hC h.1 hl (by omega)
        refine wp_bnd _ (c_outLines ok'.1 hfu hC'.1) ?_
        rintro x s' ⟨rfl, rfl⟩
        refine wp_bnd _ (c_bitCount fu _ _) ?_
        rintro x s' ⟨rfl, rfl⟩
        exact wp_some ⟨bts_bc ok'.1.n.2 hf, hC', (Hi.refl σ).set (by have := hC.1.isL h.1 hl; show PL σ l < 328; omega)⟩
      · unfold fX7_out
        refine wp_stf ?_
        refine wp_bnd _ (r_isLine h.1 hR.s20.1 ha) ?_
        rintro x s' ⟨h0, h1, rfl⟩
        refine iNe0 (fun _ => ?_) (fun h => by omega)
        refine rI l rfl (by omega) ?_
        rw [hR.s20.1.2 337 _ (by omega) (by omega)]
        refine iNe (fun g => ?_) (fun g => absurd g hd)
        refine wI l rfl (by omega) ?_
        rw [n1_id hb]
        refine wp_bnd _ (r_outMany ok'.1 hfu hR.s20.set.1) ?_
        rintro x s' ⟨rfl, rfl⟩
        exact wp_some ⟨rfl, hR.s20.set, (lo20 σ 0).set (by omega)⟩
  · refine op_same h (-1) (fun σ hC => ?_) (fun σ hR => ?_)
    · unfold fX6_out
      refine wp_bnd _ (c_hasLine h.1 hC.1 ha) ?_
      rintro x s' ⟨h0, h1, rfl⟩
      exact iNe0 (fun _ => by omega) (fun h => wp_some ⟨rfl, CP.refl σ⟩)
    · unfold fX7_out
      refine wp_stf ?_
      refine wp_bnd _ (r_isLine h.1 hR.s20.1 ha) ?_
      rintro x s' ⟨h0, h1, rfl⟩
      exact iNe0 (fun _ => by omega) (fun h => wp_some ⟨rfl, rp20 σ 0⟩)
theorem op_closes (h : OkA t V) (hfu : 1000 < fu) (ha : R32 a) (hb : b = 0 ∨ b = 1) : Op t V (fX6_closes fu a b) (fX7_closes fu a b) := by
  by_cases hc : 0 ≤ a ∧ a < 10
  · obtain ⟨s, rfl⟩ := Int.eq_ofNat_of_zero_le hc.1
    have hs : s < 10 := by omega
    have h339 := (h.1.2.2.2.2.1 s hs).2
    by_cases hd : V 339 s = b
    · refine op_same h (-2) (fun σ hC => ?_) (fun σ hR => ?_)
      · unfold fX6_closes
        refine wp_bnd _ (c_isStop fu σ ha) ?_
        rintro x s' ⟨h0, h1, rfl⟩
        refine iNe0 (fun _ => ?_) (fun h => by omega)
        refine rS s rfl hs ?_
        rw [(hC.1.2.2.2.2.2.2.1 s hs).2]
        exact iNe (fun g => absurd hd g) (fun _ => wp_some ⟨rfl, CP.refl σ⟩)
      · unfold fX7_closes
        refine wp_stf ?_
        refine wp_bnd _ (r_isStop fu _ ha) ?_
        rintro x s' ⟨h0, h1, rfl⟩
        refine iNe0 (fun _ => ?_) (fun h => by omega)
        refine rI s rfl hs ?_
        rw [hR.s20.1.2 339 _ (by omega) (by omega)]
        exact iNe (fun g => absurd hd g) (fun _ => wp_some ⟨rfl, rp20 σ 0⟩)
    · have ok' := okA_setS (a := b) (k := 339) (s := s) h (by omega)
      have hf : ∀ i, i < 10 → mset V 339 s b 339 i = 0 ∨ mset V 339 s b 339 i = 1 := fun i hi => (ok'.1.2.2.2.2.1 i hi).2
      refine ⟨smf (mset V 339 s b 339) 10, mset V 339 s b, ok', fun σ hC => ?_, fun σ hR => ?_⟩
      · unfold fX6_closes
        refine wp_bnd _ (c_isStop fu σ ha) ?_
        rintro x s' ⟨h0, h1, rfl⟩
        refine iNe0 (fun _ => ?_) (fun h => by omega)
        refine rS s rfl hs ?_
        rw [(hC.1.2.2.2.2.2.2.1 s hs).2]
        refine iNe (fun g => ?_) (fun g => absurd g hd)
        refine rS s rfl hs ?_
        refine wp_stz hb ?_
        have hC' : ClsA (mset V 339 s b) (mset σ (283 + 4 * s) 1 b) := clsA_setS hC h.1 hs (by omega)
        refine wp_bnd _ (c_closedStops ok'.1 hfu hC'.1) ?_
        rintro x s' ⟨rfl, rfl⟩
        refine wp_bnd _ (c_bitCount fu _ _) ?_
        rintro x s' ⟨rfl, rfl⟩
        exact wp_some ⟨bts_bc (by omega) hf, hC', (Hi.refl σ).set (by omega)⟩
      · unfold fX7_closes
        refine wp_stf ?_
        refine wp_bnd _ (r_isStop fu _ ha) ?_
        rintro x s' ⟨h0, h1, rfl⟩
        refine iNe0 (fun _ => ?_) (fun h => by omega)
        refine rI s rfl hs ?_
        rw [hR.s20.1.2 339 _ (by omega) (by omega)]
        refine iNe (fun g => ?_) (fun g => absurd g hd)
        refine wI s rfl hs ?_
        rw [n1_id hb]
        have hR' : RefA (mset V 339 s b) (mset (mset σ 328 20 0) 339 s b) := hR.s20.set
        have hlo : Lo σ (mset (mset σ 328 20 0) 339 s b) := (lo20 σ 0).set (by omega)
        generalize mset (mset σ 328 20 0) 339 s b = s3 at *
        refine for2 (f := fX7_closes_L39 fu _) 10 (fun i a s4 => a = smf (mset V 339 s b 339) i ∧ s3 = s4) ?_ ?_ (i := 0) ⟨rfl, rfl⟩
        · rintro n i a s4 hi ⟨rfl, rfl⟩ hrec
          have h01 := hf i hi
          rw [fX7_closes_L39]
          refine iLe (fun h => by omega) (fun _ => ?_)
          refine rI i rfl hi ?_
          rw [hR'.1.2 339 _ (by omega) (by omega)]
          refine wp_jn (iEq0 (fun h => ?_) (fun h => ?_))
          · exact wp_lt (hrec _ _ ⟨by simp only [smf]; rw [h], rfl⟩)
          · exact wp_lt (hrec _ _ ⟨by simp only [smf]; rw [show mset V 339 s b 339 i = 1 by omega], rfl⟩)
        · rintro n a s4 ⟨rfl, rfl⟩
          rw [fX7_closes_L39]
          exact iLe (fun _ => wp_some ⟨rfl, hR', hlo⟩) (fun h => by omega)
  · refine op_same h (-1) (fun σ hC => ?_) (fun σ hR => ?_)
    · unfold fX6_closes
      refine wp_bnd _ (c_isStop fu σ ha) ?_
      rintro x s' ⟨h0, h1, rfl⟩
      exact iNe0 (fun _ => by omega) (fun h => wp_some ⟨rfl, CP.refl σ⟩)
    · unfold fX7_closes
      refine wp_stf ?_
      refine wp_bnd _ (r_isStop fu _ ha) ?_
      rintro x s' ⟨h0, h1, rfl⟩
      exact iNe0 (fun _ => by omega) (fun h => wp_some ⟨rfl, rp20 σ 0⟩)
end BITS
