/-! ===== the calls net and adds ===== -/
section NETGO
variable {V V' U σ σ' σ'' X W : Mem} {z : Nat → Int} {N a m room c fu k j p i t n n0 : Nat} {v x f ch u : Int} {w : zWS} {LS : Nat → zLn} {cl : Nat → Int}
theorem r_begin (h : OkA t V) (hR : RefA V σ) : wp (fX7_begin fu σ) (fun _ σ' => TxR (zT V) (nT V) 0 σ' ∧ σ' 328 28 = -1 ∧ RdR lnZ 0 σ' ∧ RefA (mset V 328 17 0) σ' ∧ Lo σ σ') := by
  unfold fX7_begin
  obtain ⟨h1, h2, h3, h4, h5, h6⟩ := hR
  have h17 := h.2.2.2.1
  refine wp_stf (wp_stf (wp_stf (wp_stf (wp_stf (wp_some ⟨⟨?_, fun i hi => ?_, ?_⟩, ?_, ⟨?_, by omega, fun k hk => by omega⟩, ⟨⟨fun j hj => ?_, fun k j a b => ?_⟩, fun s hs => ?_, ?_, fun i => ?_, ?_, fun i => ?_⟩, fun k j hk => ?_⟩)))))
  · rw [ms_j (by omega), ms_j (by omega), ms_j (by omega), ms_j (by omega), ms_eq, h3]; unfold nT; omega
  · rw [ms_k (by omega), ms_k (by omega), ms_k (by omega), ms_k (by omega), ms_k (by omega), h4]
    unfold zT; rw [if_pos (by unfold nT at hi; omega)]
  · rw [ms_j (by omega), ms_j (by omega), ms_eq]; rfl
  · rw [ms_j (by omega), ms_eq]
  · rw [ms_eq]; rfl
  · rw [ms_j (by omega), ms_j (by omega), ms_j (by omega), ms_j (by omega), ms_j (by omega), ms_j (by omega)]; exact h1.1 j hj
  · rw [ms_k (by omega), ms_k (by omega), ms_k (by omega), ms_k (by omega), ms_k (by omega), ms_k (by omega)]; exact h1.2 k j a b
  · rw [ms_k (by omega), ms_k (by omega), ms_k (by omega), ms_k (by omega), ms_k (by omega), ms_k (by omega)]; exact h2 s hs
  · rw [ms_j (by omega), ms_j (by omega), ms_j (by omega), ms_eq, ms_eq]
  · rw [ms_k (by omega), ms_k (by omega), ms_k (by omega), ms_k (by omega), ms_k (by omega), ms_k (by omega)]; exact h4 i
  · rw [ms_j (by omega), ms_j (by omega), ms_j (by omega), ms_j (by omega), ms_j (by omega), ms_j (by omega)]; exact h5
  · rw [ms_k (by omega), ms_k (by omega), ms_k (by omega), ms_k (by omega), ms_k (by omega), ms_k (by omega)]; exact h6 i
  · rw [ms_k (by omega), ms_k (by omega), ms_k (by omega), ms_k (by omega), ms_k (by omega)]
theorem RefA.frr (h : RefA V σ) (g : FrR σ σ') : RefA V σ' := by
  have e : ∀ k j, k < 342 → ¬ (k = 328 ∧ 25 ≤ j ∧ j ≤ 28) → σ' k j = σ k j := fun k j a b => by have := g k j; omega
  obtain ⟨h1, h2, h3, h4, h5, h6⟩ := h
  exact ⟨⟨fun j hj => by rw [e _ _ (by omega) (by omega)]; exact h1.1 j hj, fun k j a b => by rw [e _ _ (by omega) (by omega)]; exact h1.2 k j a b⟩, fun s hs => by rw [e _ _ (by omega) (by omega)]; exact h2 s hs, by rw [e _ _ (by omega) (by omega)]; exact h3, fun i => by rw [e _ _ (by omega) (by omega)]; exact h4 i, by rw [e _ _ (by omega) (by omega)]; exact h5, fun i => by rw [e _ _ (by omega) (by omega)]; exact h6 i⟩
theorem FrR.lo (g : FrR σ σ') : Lo σ σ' := fun k j hk => by have := g k j; omega
theorem FrT.lo (g : FrT n0 σ σ') : Lo σ σ' := fun k j hk => by have := g k j; omega
theorem r_rends {R : Int → Mem → Prop} {J : Mem → PR} {r : Int × Nat × (Nat → zLn) × Nat} (h : TxZ z N) (hr : -1 ≤ r.1 ∧ r.1 ≤ 402) (h28 : σ 328 28 = r.1) (hT : r.1 = -1 → TxR z N r.2.1 σ ∧ r.2.1 ≤ N)
    (hJ0 : ∀ s, (enE N r).1 ≠ -1 → s 328 28 = (enE N r).1 → FrR σ s → wp (J s) R) (hJ1 : enE N r = (-1, r.2.2.1, r.2.2.2) → r.1 = -1 → wp (J σ) R) :
    wp (if w32 (σ 328 28) ≠ w32 (-1) then J σ else if w32 (σ 328 26) ≤ w32 (σ 328 27) then J σ else bnd (fX7_fault fu (σ 328 27) σ) (fun _ s => J s)) R := by
  have hN := h.1
  by_cases g : r.1 = -1
  · obtain ⟨t1, t2⟩ := hT g
    rw [h28, t1.1, t1.2.2]
    refine iNe (fun q => absurd g q) (fun _ => ?_)
    refine iLe (fun q => hJ1 ?_ g) (fun q => ?_)
    · unfold enE; rw [if_neg (fun q => q g), if_neg (by omega)]
    · have ee : enE N r = ((r.2.1 : Int), r.2.2.1, r.2.2.2) := by unfold enE; rw [if_neg (fun q => q g), if_pos (by omega)]
      refine wp_bnd _ (r_fault (by rw [h28, g])) ?_
      intro _ s ⟨w1, w2⟩
      exact hJ0 s (by rw [ee]; show (r.2.1 : Int) ≠ -1; omega) (by rw [ee]; exact w1) (fun k j => by have := w2 k j; omega)
  · have ee : enE N r = (r.1, r.2.2.1, r.2.2.2) := if_pos g
    rw [h28]
    exact iNe (fun _ => hJ0 σ (by rw [ee]; exact g) (by rw [ee]; exact h28) (FrR.refl σ)) (fun q => absurd q g)
theorem enE_r {r : Int × Nat × (Nat → zLn) × Nat} (hr : -1 ≤ r.1 ∧ r.1 ≤ 402) (h2 : r.1 = -1 → r.2.1 ≤ 402) : -1 ≤ (enE N r).1 ∧ (enE N r).1 ≤ 402 := by
  by_cases g : r.1 = -1
  · have := h2 g
    by_cases g2 : r.2.1 = N
    · have ee : enE N r = (-1, r.2.2.1, r.2.2.2) := by unfold enE; rw [if_neg (fun q => q g), if_neg (fun q => q g2)]
      rw [ee]; show -1 ≤ (-1 : Int) ∧ (-1 : Int) ≤ 402; omega
    · have ee : enE N r = ((r.2.1 : Int), r.2.2.1, r.2.2.2) := by unfold enE; rw [if_neg (fun q => q g), if_pos g2]
      rw [ee]; show -1 ≤ (r.2.1 : Int) ∧ (r.2.1 : Int) ≤ 402; omega
  · have ee : enE N r = (r.1, r.2.2.1, r.2.2.2) := if_pos g
    rw [ee]; exact hr
theorem r_netT (hfu : 1000 < fu) (hR : RefA (mset V 328 17 0) σ) (hd : RdR LS m σ) (hLS : ∀ k, k < m → OkLn (LS k)) : wp (stf σ 328 9 0 (fun s15 => bnd (fX7_takesRead fu s15) (fun _ s16 => stf s16 328 13 0 (fun s17 => fX7_net_L143 fu (fun s22 => some (s22 328 9, s22)) fu 0 s17)))) (fun r σ' => r = (m : Int) ∧ RfE V 0 LS m 0 (fun _ => 0) σ' ∧ Lo σ σ') := by
  have hm12 := hd.2.1
  refine wp_stf ?_
  have hd5 : RdR LS m (mset σ 328 9 0) := hd.s27 (by omega) hLS
  refine wp_bnd _ (r_takes (n0 := 0) hfu hd5 hLS (ms_eq _ _ _ _) (by omega)) ?_
  rintro _ s16 ⟨d1, d2, d3⟩
  refine wp_stf ?_
  have k1 : ∀ k j, ¬ (k = 328 ∧ j = 13) → mset s16 328 13 0 k j = s16 k j := fun k j g => by rw [mset_eq, if_neg g]
  have k2 : mset s16 328 13 0 328 13 = 0 := ms_eq _ _ _ _
  generalize mset s16 328 13 0 = s17 at *
  refine for1 (f := fX7_net_L143 fu _) 10 (fun i s => (∀ q, q < i → s 339 q = 0) ∧ ∀ k j, (k = 339 ∧ j < 10) ∨ s k j = s17 k j) ?_ ?_ (i := 0) ⟨fun q hq => by omega, fun k j => Or.inr rfl⟩
  · intro n i s hi ⟨j1, j2⟩ hrec
    rw [fX7_net_L143]
    refine iLe (fun h => by omega) (fun _ => ?_)
    rw [n1_0]
    refine wI i rfl hi (hrec _ ⟨fun q hq => ?_, fun k j => ?_⟩)
    · by_cases e : q = i
      · rw [e, ms_eq]
      · rw [ms_j e]; exact j1 q (by omega)
    · by_cases e : k = 339 ∧ j = i
      · left; omega
      · rw [mset_eq, if_neg e]; exact j2 k j
  · intro n s ⟨j1, j2⟩
    rw [fX7_net_L143]
    refine iLe (fun _ => ?_) (fun h => by omega)
    obtain ⟨h1, h2, h3, h4, h5, h6⟩ := hR
    have e1 : ∀ k j, k ≠ 339 → ¬ (k = 328 ∧ j = 13) → s k j = s16 k j := fun k j a b => by have := j2 k j; have := k1 k j b; omega
    have e2 : ∀ k j, k ≤ 328 ∨ 338 ≤ k → k ≠ 339 → ¬ (k = 328 ∧ j = 13) → ¬ (k = 328 ∧ j = 9) → s k j = σ k j := fun k j a b c d => by
      rw [e1 k j b c]
      have := d3 k j
      have e : mset σ 328 9 0 k j = σ k j := by rw [mset_eq, if_neg d]
      omega
    have e9 : s 328 9 = ((0 + m : Nat) : Int) := by rw [e1 _ _ (by omega) (by omega)]; exact d1
    refine wp_some ⟨by rw [e9, Nat.zero_add], ⟨e9, fun j hj => ?_, ?_, ?_, fun j => ?_, fun q hq => ⟨?_, j1 q hq⟩, fun k hk => ⟨?_, hLS k hk⟩, fun k j _ hj => by omega, fun k j _ _ hj => by omega⟩, fun k j hk => e2 k j (by omega) (by omega) (by omega) (by omega)⟩
    · rw [e2 _ _ (by omega) (by omega) (by omega) (by omega)]
      by_cases e : j = 19
      · rw [e, h5, ms_j (by omega)]
      · rw [h1.1 j (by omega), ms_j (by omega)]
    · rw [← k2]; have := j2 328 13; omega
    · rw [e2 _ _ (by omega) (by omega) (by omega) (by omega), h3, ms_eq]
    · rw [e2 _ _ (by omega) (by omega) (by omega) (by omega), h6, ms_k (by omega)]
    · rw [e2 _ _ (by omega) (by omega) (by omega) (by omega), h2 q hq, ms_k (by omega)]
    · exact (d2 k hk).mv (hLS k hk).2.1.2 (fun q hq => e1 _ _ (by omega) (by omega)) (fun q j _ _ _ _ => e1 _ _ (by omega) (by omega))
theorem r_addT (h : OkN V) (hfu : 1000 < fu) (hR : RefA (mset V 328 17 0) σ) (hd : RdR LS m σ) (hLS : ∀ k, k < m → OkLn (LS k)) (hm : nn V + m ≤ 12) : wp (bnd (fX7_takesRead fu σ) (fun _ s6 => some (s6 328 9, s6))) (fun r σ' => r = ((nn V + m : Nat) : Int) ∧ RfE V (nn V) LS m (V 328 13) (fun s => V 339 s) σ' ∧ Lo σ σ') := by
  obtain ⟨h1, h2, h3, h4, h5, h6⟩ := hR
  have hn := h.n
  refine wp_bnd _ (r_takes (n0 := nn V) hfu hd hLS (by rw [h1.1 9 (by omega), ms_j (by omega)]; omega) hm) ?_
  rintro _ s ⟨d1, d2, d3⟩
  have e1 : ∀ k j, (k ≤ 328 ∨ 338 ≤ k) → ¬ (k = 328 ∧ j = 9) → s k j = σ k j := fun k j a b => by have := d3 k j; omega
  refine wp_some ⟨d1, ⟨d1, fun j hj => ?_, ?_, ?_, fun j => ?_, fun q hq => ⟨?_, ?_⟩, fun k hk => ⟨d2 k hk, hLS k hk⟩, fun k j hk hj => ?_, fun k j hk hk2 hj => ?_⟩, d3.lo⟩
  · rw [e1 _ _ (by omega) (by omega)]
    by_cases e : j = 19
    · rw [e, h5, ms_j (by omega)]
    · rw [h1.1 j (by omega), ms_j (by omega)]
  · rw [e1 _ _ (by omega) (by omega), h1.1 13 (by omega), ms_j (by omega)]
  · rw [e1 _ _ (by omega) (by omega), h3, ms_eq]
  · rw [e1 _ _ (by omega) (by omega), h6, ms_k (by omega)]
  · rw [e1 _ _ (by omega) (by omega), h2 q hq, ms_k (by omega)]
  · rw [e1 _ _ (by omega) (by omega), h1.2 339 q (by omega) (by omega), ms_k (by omega)]
  · have e : s k j = σ k j := by have := d3 k j; omega
    rw [e, h1.2 k j (by omega) (by omega), ms_k (by omega)]
  · have e : s k j = σ k j := by have := d3 k j; omega
    rw [e, h1.2 k j (by omega) (by omega), ms_k (by omega)]
theorem r_net (h : OkA t V) (hfu : 1000 < fu) (hR : RefA V σ) : wp (fX7_net fu σ) (fun r σ' => Lo σ σ' ∧ (((netE (zT V) (nT V)).1 ≠ -1 ∧ r = -21 - (netE (zT V) (nT V)).1 ∧ RefA (mset V 328 17 0) σ') ∨ ((netE (zT V) (nT V)).1 = -1 ∧ r = ((netE (zT V) (nT V)).2.2 : Int) ∧ RfE V 0 (netE (zT V) (nT V)).2.1 (netE (zT V) (nT V)).2.2 0 (fun _ => 0) σ' ∧ (netE (zT V) (nT V)).2.2 ≤ 12))) := by
  have hz := zT_ok h
  have hN := hz.1
  unfold fX7_net
  refine wp_stf ?_
  have hR1 := hR.s20 (v := 0)
  have hlo1 : Lo σ (mset σ 328 20 0) := (Lo.refl σ).set (by omega)
  refine wp_bnd _ (r_begin h hR1) ?_
  rintro _ s2 ⟨b1, b2, b3, b4, b5⟩
  have hlo2 := hlo1.trans b5
  have hK : ∀ (r : Int × Nat × (Nat → zLn) × Nat) (s13 : Mem), enE (nT V) r = netE (zT V) (nT V) → (-1 ≤ r.1 ∧ r.1 ≤ 402) → s13 328 28 = r.1 → FrR s2 s13 → (r.1 = -1 → TxR (zT V) (nT V) r.2.1 s13 ∧ r.2.1 ≤ nT V ∧ RdR r.2.2.1 r.2.2.2 s13 ∧ ∀ k, k < r.2.2.2 → OkLn (r.2.2.1 k)) →
      wp (jn (fun s14 => if w32 (s14 328 28) = w32 (-1) then stf s14 328 9 0 (fun s15 => bnd (fX7_takesRead fu s15) (fun _ s16 => stf s16 328 13 0 (fun s17 => fX7_net_L143 fu (fun s22 => some (s22 328 9, s22)) fu 0 s17))) else some ((-21) - (s14 328 28), s14)) (fun (j2 : Mem → PR) => if w32 (s13 328 28) ≠ w32 (-1) then j2 s13 else if w32 (s13 328 26) ≤ w32 (s13 328 27) then j2 s13 else bnd (fX7_fault fu (s13 328 27) s13) (fun _ s23 => j2 s23))) (fun r σ' => Lo σ σ' ∧ (((netE (zT V) (nT V)).1 ≠ -1 ∧ r = -21 - (netE (zT V) (nT V)).1 ∧ RefA (mset V 328 17 0) σ') ∨ ((netE (zT V) (nT V)).1 = -1 ∧ r = ((netE (zT V) (nT V)).2.2 : Int) ∧ RfE V 0 (netE (zT V) (nT V)).2.1 (netE (zT V) (nT V)).2.2 0 (fun _ => 0) σ' ∧ (netE (zT V) (nT V)).2.2 ≤ 12))) := by
    intro r s13 e1 e2 e3 e4 e5
    have hrr := enE_r (N := nT V) e2 (fun g => by have := (e5 g).2.1; omega)
    refine wp_jn (r_rends (r := r) hz e2 e3 (fun g => ⟨(e5 g).1, (e5 g).2.1⟩) ?_ ?_)
    · intro s g1 g2 g3
      rw [g2]
      rw [e1] at g1 g2 hrr ⊢
      refine iEq (fun q => absurd q g1) (fun _ => ?_)
      have f9 := e4.trans g3
      exact wp_some ⟨hlo2.trans f9.lo, Or.inl ⟨g1, rfl, b4.frr f9⟩⟩
    · intro g1 g2
      obtain ⟨t1, t2, t3, t4⟩ := e5 g2
      rw [← e1, g1]
      dsimp only
      rw [e3, g2]
      refine iEq (fun _ => ?_) (fun q => absurd rfl q)
      refine wp_imp (r_netT hfu (b4.frr e4) t3 t4) ?_
      rintro y s' ⟨y1, y2, y3⟩
      exact ⟨(hlo2.trans e4.lo).trans y3, Or.inr ⟨rfl, y1, y2, t3.2.1⟩⟩
  have hKnow : ∀ (fl : Nat) (s3 : Mem) {K : Mem → PR} {R : Int → Mem → Prop}, s3 328 28 ≠ -1 → R32 (s3 328 28) → wp (K s3) R → wp (fX7_net_L21 fu K (fl + 1) s3) R := by
    intro fl s3 K R g1 g2 g3
    rw [fX7_net_L21]
    exact iNe (fun _ => g3) (fun q => absurd q g1)
  refine wp_jn ?_
  rw [b1.1]
  refine iLe0 (fun g => ?_) (fun g => ?_)
  · have hN0 : nT V = 0 := by omega
    obtain ⟨f1, rfl⟩ : ∃ f1, fu = f1 + 1 := ⟨fu - 1, by omega⟩
    dsimp only
    rw [fX7_net_L21, b2]
    refine iNe (fun q => absurd rfl q) (fun _ => ?_)
    have hb := hz.b 0
    refine wp_bnd _ (r_sees hz b1 (by omega)) ?_
    rintro y s' ⟨rfl, rfl⟩
    have hz0 : zT V 0 = -1 := hz.2.2 0 (by omega)
    refine iNe (fun _ => ?_) (fun q => by omega)
    refine hK (-1, 0, lnZ, 0) s2 ?_ (by show -1 ≤ (-1 : Int) ∧ (-1 : Int) ≤ 402; omega) b2 (FrR.refl s2) (fun _ => ⟨b1, by show 0 ≤ nT V; omega, b3, fun k hk => by have hk : k < 0 := hk; omega⟩)
    unfold netE enE; rw [if_neg (fun q => q rfl), if_neg (fun q => q hN0.symm), if_pos hN0]
  · refine wp_bnd _ (r_line (room := 12) hz hfu b1 (by omega) b2 b3 (fun k hk => by omega) (by omega) (by omega) (by omega)) ?_
    rintro _ s3 ⟨q3, f3⟩
    have hrr := rlW_r (m := 0) (room := 12) (a := 0) hz (by omega)
    rcases q3 with ⟨q3, q3'⟩ | ⟨q3, q3', q3t, q3r⟩
    · obtain ⟨f1, rfl⟩ : ∃ f1, fu = f1 + 1 := ⟨fu - 1, by omega⟩
      refine hKnow f1 s3 (by rw [q3']; exact q3) (by rw [q3']; omega) (hK (rlW (zT V) 0 0 12, 0, lnZ, 0) s3 ?_ hrr q3' f3 (fun g => absurd g q3))
      unfold netE enE; rw [if_pos q3, if_neg (by omega), if_pos q3]
    · have ee : netE (zT V) (nT V) = enE (nT V) (rlsL (zT V) 12 (rlA (zT V) 0) (adL (zT V) 0 lnZ 0) (adM (zT V) 0 0)) := by unfold netE; rw [if_neg (by omega), if_neg (fun q => q q3)]
      have hle := adM_le hz q3
      have hra := (rlL_ok hz q3).2
      have hlr := rlsL_r hz 12 (rlA (zT V) 0) (adL (zT V) 0 lnZ 0) (adM (zT V) 0 0) hra
      refine r_linesL (σ := s2) hz hfu 12 fu (rlA (zT V) 0) (adL (zT V) 0 lnZ 0) (adM (zT V) 0 0) s3 (by omega) (by omega) (f3.tx b1 q3t) hra q3' q3r (adL_ok hz q3 (fun k hk => by omega)) f3 ?_ ?_
      · intro s' g1 g2 g3
        exact hK (rlsL (zT V) 12 (rlA (zT V) 0) (adL (zT V) 0 lnZ 0) (adM (zT V) 0 0)) s' ee.symm hlr g2 g3 (fun g => absurd g g1)
      · intro s' g1 g2 g3 g4 g5 g6 g7
        exact hK (rlsL (zT V) 12 (rlA (zT V) 0) (adL (zT V) 0 lnZ 0) (adM (zT V) 0 0)) s' ee.symm hlr (by rw [g2, g1]) g7 (fun _ => ⟨g3, g4, g5, g6⟩)
theorem r_adds (h : OkA t V) (hfu : 1000 < fu) (hR : RefA V σ) : wp (fX7_adds fu σ) (fun r σ' => Lo σ σ' ∧ (((addE (zT V) (nT V) (12 - nn V)).1 ≠ -1 ∧ r = -21 - (addE (zT V) (nT V) (12 - nn V)).1 ∧ RefA (mset V 328 17 0) σ') ∨ ((addE (zT V) (nT V) (12 - nn V)).1 = -1 ∧ r = ((nn V + (addE (zT V) (nT V) (12 - nn V)).2.2 : Nat) : Int) ∧ RfE V (nn V) (addE (zT V) (nT V) (12 - nn V)).2.1 (addE (zT V) (nT V) (12 - nn V)).2.2 (V 328 13) (fun s => V 339 s) σ' ∧ nn V + (addE (zT V) (nT V) (12 - nn V)).2.2 ≤ 12))) := by
  have hz := zT_ok h
  have hN := hz.1
  have hn := h.1.n
  have h9 := h.1.1
  unfold fX7_adds
  refine wp_stf ?_
  have hR1 := hR.s20 (v := 0)
  have hlo1 : Lo σ (mset σ 328 20 0) := (Lo.refl σ).set (by omega)
  refine wp_bnd _ (r_begin h hR1) ?_
  rintro _ s2 ⟨b1, b2, b3, b4, b5⟩
  have hlo2 := hlo1.trans b5
  have h29 : s2 328 9 = (nn V : Int) := by rw [b4.1.1 9 (by omega), ms_j (by omega)]; omega
  have hrr := rlW_r (m := 0) (room := 12 - nn V) (a := 0) hz (by omega)
  refine wp_jm (fun s3 => (s2 = s3) ∨ (12 - nn V = 0 ∧ s3 328 28 = 0 ∧ FrR s2 s3)) ?_ ?_
  · intro s3 g3
    refine wp_jm (fun s4 => ((rlW (zT V) 0 0 (12 - nn V) ≠ -1 ∧ s4 328 28 = rlW (zT V) 0 0 (12 - nn V)) ∨ (rlW (zT V) 0 0 (12 - nn V) = -1 ∧ s4 328 28 = -1 ∧ s4 328 27 = (rlA (zT V) 0 : Int) ∧ RdR (adL (zT V) 0 lnZ 0) (adM (zT V) 0 0) s4)) ∧ FrR s2 s4) ?_ ?_
    · rintro s4 ⟨g4, f4⟩
      have key : ∀ r : Int × Nat × (Nat → zLn) × Nat, enE (nT V) r = addE (zT V) (nT V) (12 - nn V) → (-1 ≤ r.1 ∧ r.1 ≤ 402) → s4 328 28 = r.1 → (r.1 = -1 → TxR (zT V) (nT V) r.2.1 s4 ∧ r.2.1 ≤ nT V ∧ RdR r.2.2.1 r.2.2.2 s4 ∧ (∀ k, k < r.2.2.2 → OkLn (r.2.2.1 k)) ∧ nn V + r.2.2.2 ≤ 12) →
          wp (jn (fun s5 => if w32 (s5 328 28) = w32 (-1) then bnd (fX7_takesRead fu s5) (fun _ s6 => some (s6 328 9, s6)) else some ((-21) - (s5 328 28), s5)) (fun (j3 : Mem → PR) => if w32 (s4 328 28) ≠ w32 (-1) then j3 s4 else if w32 (s4 328 26) ≤ w32 (s4 328 27) then j3 s4 else bnd (fX7_fault fu (s4 328 27) s4) (fun _ s7 => j3 s7))) (fun r σ' => Lo σ σ' ∧ (((addE (zT V) (nT V) (12 - nn V)).1 ≠ -1 ∧ r = -21 - (addE (zT V) (nT V) (12 - nn V)).1 ∧ RefA (mset V 328 17 0) σ') ∨ ((addE (zT V) (nT V) (12 - nn V)).1 = -1 ∧ r = ((nn V + (addE (zT V) (nT V) (12 - nn V)).2.2 : Nat) : Int) ∧ RfE V (nn V) (addE (zT V) (nT V) (12 - nn V)).2.1 (addE (zT V) (nT V) (12 - nn V)).2.2 (V 328 13) (fun s => V 339 s) σ' ∧ nn V + (addE (zT V) (nT V) (12 - nn V)).2.2 ≤ 12))) := by
        intro r e1 e2 e3 e5
        have hrr := enE_r (N := nT V) e2 (fun g => by have := (e5 g).2.1; omega)
        refine wp_jn (r_rends (r := r) hz e2 e3 (fun g => ⟨(e5 g).1, (e5 g).2.1⟩) ?_ ?_)
        · intro s g1 g2 g3
          rw [g2]
          rw [e1] at g1 g2 hrr ⊢
          refine iEq (fun q => absurd q g1) (fun _ => ?_)
          have f9 := f4.trans g3
          exact wp_some ⟨hlo2.trans f9.lo, Or.inl ⟨g1, rfl, b4.frr f9⟩⟩
        · intro g1 g2
          obtain ⟨t1, t2, t3, t4, t5⟩ := e5 g2
          rw [← e1, g1]
          dsimp only
          rw [e3, g2]
          refine iEq (fun _ => ?_) (fun q => absurd rfl q)
          refine wp_imp (r_addT h.1 hfu (b4.frr f4) t3 t4 t5) ?_
          rintro y s' ⟨y1, y2, y3⟩
          exact ⟨(hlo2.trans f4.lo).trans y3, Or.inr ⟨rfl, y1, y2, t5⟩⟩
      rcases g4 with ⟨g4, g4'⟩ | ⟨g4, g4', g4t, g4r⟩
      · refine key (rlW (zT V) 0 0 (12 - nn V), 0, lnZ, 0) ?_ hrr g4' (fun g => absurd g g4)
        unfold addE enE; rw [if_pos g4, if_pos g4]
      · have hle := adM_le hz g4
        refine key (-1, rlA (zT V) 0, adL (zT V) 0 lnZ 0, adM (zT V) 0 0) ?_ (by show -1 ≤ (-1 : Int) ∧ (-1 : Int) ≤ 402; omega) g4' (fun _ => ⟨f4.tx b1 g4t, (rlL_ok hz g4).2, g4r, adL_ok hz g4 (fun k hk => by omega), by show nn V + adM (zT V) 0 0 ≤ 12; omega⟩)
        unfold addE; rw [if_neg (fun q => q g4)]
    · intro jj hj
      rcases g3 with rfl | ⟨g3, g3', g3f⟩
      · rw [b2]
        refine iNe (fun q => absurd rfl q) (fun _ => ?_)
        rw [h29]
        refine wp_bnd _ (r_line (room := 12 - nn V) hz hfu b1 (by omega) b2 b3 (fun k hk => by omega) (by omega) (by omega) (by omega)) ?_
        rintro _ s4 g4
        exact hj s4 g4
      · rw [g3']
        have er : rlW (zT V) 0 0 (12 - nn V) = 0 := by unfold rlW; rw [if_pos (by omega)]; rfl
        exact iNe (fun _ => hj s3 ⟨Or.inl ⟨by omega, by rw [g3', er]⟩, g3f⟩) (fun q => by omega)
  · intro jj hj
    rw [h29]
    refine iNe (fun _ => hj s2 (Or.inl rfl)) (fun g => ?_)
    have hb := hz.b 0
    refine wp_bnd _ (r_sees hz b1 (by omega)) ?_
    rintro y s' ⟨rfl, rfl⟩
    rw [w32_sm (x := zT V 0) (by omega) (by omega)]
    refine wp_bnd _ (r_in _ (by omega) (by omega) (by omega)) ?_
    rintro y s' ⟨y0, y1, rfl⟩
    refine iEq0 (fun _ => hj s2 (Or.inl rfl)) (fun _ => ?_)
    refine wp_bnd _ (r_fault b2) ?_
    intro _ s9 ⟨w1, w2⟩
    exact hj s9 (Or.inr ⟨by omega, w1, fun k j => by have := w2 k j; omega⟩)
end NETGO
