/-! ===== centre, spare ===== -/
noncomputable def cT (V : Mem) (i : Nat) : Int := totv (mset V 328 11 (i : Int))
noncomputable def cS (V : Mem) (i : Nat) : Int := strv (mset V 328 11 (i : Int))
noncomputable def ceF (V : Mem) : Nat → Int × Int × Int
  | 0 => (-1, 0, 0)
  | i + 1 => if i = 0 ∨ cS V i < (ceF V i).2.1 ∨ (cS V i = (ceF V i).2.1 ∧ cT V i < (ceF V i).2.2) then ((i : Int), cS V i, cT V i) else ceF V i
section WHAT3
variable {V V' σ σ' X W : Mem} {c rid : Nat → Int} {t k j l p s P fu : Nat} {a b v r A B x : Int}
theorem ceF_take {i : Nat} (h : i = 0 ∨ cS V i < (ceF V i).2.1 ∨ (cS V i = (ceF V i).2.1 ∧ cT V i < (ceF V i).2.2)) : ceF V (i + 1) = ((i : Int), cS V i, cT V i) := if_pos h
theorem ceF_keep {i : Nat} (h : ¬ (i = 0 ∨ cS V i < (ceF V i).2.1 ∨ (cS V i = (ceF V i).2.1 ∧ cT V i < (ceF V i).2.2))) : ceF V (i + 1) = ceF V i := if_neg h
theorem cT_b (h : OkA t V) {i : Nat} (hi : i < 10) : (0 ≤ cT V i ∧ cT V i ≤ 1779822000000) ∧ 0 ≤ cS V i ∧ cS V i ≤ 99990 := by
  have h1 := (h.setN' (j := 11) (a := (i : Int)) (by omega)).1
  exact ⟨totv_b h1, strv_b h1⟩
theorem ceF_b (h : OkA t V) : ∀ i, i ≤ 10 → ((i = 0 ∧ (ceF V i).1 = -1) ∨ (1 ≤ i ∧ 0 ≤ (ceF V i).1 ∧ (ceF V i).1 < (i : Int))) ∧ (0 ≤ (ceF V i).2.1 ∧ (ceF V i).2.1 ≤ 99990) ∧ 0 ≤ (ceF V i).2.2 ∧ (ceF V i).2.2 ≤ 1779822000000 := by
  intro i
  induction i with
  | zero => intro _; exact ⟨Or.inl ⟨rfl, rfl⟩, by show (0 : Int) ≤ 0 ∧ (0 : Int) ≤ 99990; omega, by show (0 : Int) ≤ 0 ∧ (0 : Int) ≤ 1779822000000; omega⟩
  | succ i ih =>
    intro hi
    have ih := ih (by omega)
    have hb := cT_b h (show i < 10 by omega)
    by_cases g : i = 0 ∨ cS V i < (ceF V i).2.1 ∨ (cS V i = (ceF V i).2.1 ∧ cT V i < (ceF V i).2.2)
    · rw [ceF_take g]
      exact ⟨Or.inr ⟨by omega, by show 0 ≤ (i : Int); omega, by show (i : Int) < ((i + 1 : Nat) : Int); omega⟩, hb.2, hb.1⟩
    · rw [ceF_keep g]
      refine ⟨Or.inr ?_, ih.2⟩
      omega
theorem mset_mset (V : Mem) (k j : Nat) (a b : Int) : mset (mset V k j a) k j b = mset V k j b := by
  funext x y
  rw [mset_eq, mset_eq, mset_eq]
  split <;> rfl
theorem mset_idm (V : Mem) (k j : Nat) : mset V k j (V k j) = V := by
  funext x y
  rw [mset_eq]
  by_cases e : x = k ∧ y = j
  · rw [if_pos e, e.1, e.2]
  · rw [if_neg e]
theorem op_centre (h : OkA t V) (hfu : 1000 < fu) : Op t V (fX6_centre fu) (fX7_centre fu) := by
  have hbb := ceF_b h 10 (Nat.le_refl _)
  refine ⟨(ceF V 10).1, row2 V (ceF V 10).2.2 (ceF V 10).2.1, (row2_ok h).up, fun σ hC => ?_, fun σ hR => ?_⟩
  · unfold fX6_centre
    refine for4 (f := fX6_centre_L10 fu _) 10 (fun i x y z s => ((i = 0 ∧ x = 0 ∧ y = 0 ∧ z = 0) ∨ (1 ≤ i ∧ x = (ceF V i).1 ∧ y = (ceF V i).2.1 ∧ z = (ceF V i).2.2)) ∧ ClsA V s ∧ Hi σ s) ?_ ?_ (i := 0) ⟨Or.inl ⟨rfl, rfl, rfl, rfl⟩, hC, Hi.refl σ⟩
    · rintro n i x y z s hi ⟨j0, j1, j2⟩ hrec
      have hb := ceF_b h i (by omega)
      have ht := cT_b h hi
      have hxy : (0 ≤ y ∧ y ≤ 99990) ∧ 0 ≤ z ∧ z ≤ 1779822000000 := by rcases j0 with e | e <;> omega
      rw [fX6_centre_L10]
      refine iLe (fun h => by omega) (fun _ => ?_)
      refine wp_bnd _ (c_towards h hfu hi j1) ?_
      intro _ s2 ⟨e1, e2, e3, e4⟩
      rw [show totv (mset V 328 11 (i : Int)) = cT V i from rfl] at e1
      rw [show strv (mset V 328 11 (i : Int)) = cS V i from rfl] at e2
      rw [e2]
      have htake : (i = 0 ∨ cS V i < y ∨ (cS V i = y ∧ cT V i < z)) → wp (fX6_centre_L10 fu (fun x15 x16 x17 s15 => bnd (fX3_putTwo fu x17 x16 s15) (fun _ s16 => some (x15, s16))) n (i : Int) (s2 136 9) (s2 136 8) ((i : Int) + 1) s2) (fun r1 σ1 => r1 = (ceF V 10).1 ∧ ClsA (row2 V (ceF V 10).2.2 (ceF V 10).2.1) σ1 ∧ Hi σ σ1) := by
        intro g
        rw [e1, e2]
        refine hrec _ _ _ _ ⟨Or.inr ⟨by omega, ?_⟩, e3, j2.trans e4⟩
        rw [ceF_take (by rcases j0 with e | e <;> omega)]
        exact ⟨rfl, rfl, rfl⟩
      have hkeep : ¬ (i = 0 ∨ cS V i < y ∨ (cS V i = y ∧ cT V i < z)) → wp (fX6_centre_L10 fu (fun x15 x16 x17 s15 => bnd (fX3_putTwo fu x17 x16 s15) (fun _ s16 => some (x15, s16))) n x y z ((i : Int) + 1) s2) (fun r1 σ1 => r1 = (ceF V 10).1 ∧ ClsA (row2 V (ceF V 10).2.2 (ceF V 10).2.1) σ1 ∧ Hi σ σ1) := by
        intro g
        refine hrec _ _ _ _ ⟨Or.inr ⟨by omega, ?_⟩, e3, j2.trans e4⟩
        rw [ceF_keep (by rcases j0 with e | e <;> omega)]
        rcases j0 with e | e
        · omega
        · exact e.2
      refine wp_ji (fun w s' => (w = 0 ∨ w = 1) ∧ (w = 1 ↔ cS V i < y) ∧ s2 = s') ?_ ?_
      · rintro w1 s' ⟨w10, w11, rfl⟩
        refine wp_ji (fun w s' => (w = 0 ∨ w = 1) ∧ (w = 1 ↔ cS V i = y ∧ cT V i < z) ∧ s2 = s') ?_ ?_
        · rintro w2 s' ⟨w20, w21, rfl⟩
          refine wp_jn (wp_jn ?_)
          refine iEq0 (fun g => wp_lt (wp_lt (htake (by omega)))) (fun g1 => ?_)
          refine iNe0 (fun g => wp_lt (wp_lt (htake (by omega)))) (fun g2 => ?_)
          refine iEq0 (fun g => hkeep (by omega)) (fun g => wp_lt (wp_lt (htake (by omega))))
        · intro j hj
          refine wp_jn ?_
          rw [e1, e2]
          refine jNe (fun g => hj _ _ ⟨Or.inl rfl, by omega, rfl⟩) (fun g => ?_)
          exact jLe (fun g2 => hj _ _ ⟨Or.inl rfl, by omega, rfl⟩) (fun g2 => hj _ _ ⟨Or.inr rfl, by omega, rfl⟩)
      · intro j hj
        exact jLe (fun g => hj _ _ ⟨Or.inl rfl, by omega, rfl⟩) (fun g => hj _ _ ⟨Or.inr rfl, by omega, rfl⟩)
    · rintro n x y z s ⟨j0, j1, j2⟩
      rw [fX6_centre_L10]
      refine iLe (fun _ => ?_) (fun h => by omega)
      rcases j0 with e | ⟨e, rfl, rfl, rfl⟩
      · omega
      · refine wp_bnd _ (c_putTwo fu h.1 j1) ?_
        intro _ s3 ⟨q1, q2, q3⟩
        exact wp_some ⟨rfl, q1, j2.trans q2⟩
  · unfold fX7_centre
    refine wp_stf (wp_lt ?_)
    rw [hR.s20.1.j (by omega)]
    refine for4 (f := fX7_centre_L20 fu (V 328 11) _) 10 (fun i x y z s => x = (ceF V i).1 ∧ y = (ceF V i).2.2 ∧ z = (ceF V i).2.1 ∧ (∃ g, RefA (mset V 328 11 g) s) ∧ Lo σ s) ?_ ?_ (i := 0) ⟨rfl, rfl, rfl, ⟨V 328 11, by rw [mset_idm]; exact hR.s20⟩, lo20 σ 0⟩
    · rintro n i x y z s hi ⟨rfl, rfl, rfl, ⟨g0, j1⟩, j2⟩ hrec
      have hb := ceF_b h i (by omega)
      have ht := cT_b h hi
      have h1 := h.setN' (j := 11) (a := (i : Int)) (by omega)
      rw [fX7_centre_L20]
      refine iLe (fun h => by omega) (fun _ => ?_)
      refine wp_stf ?_
      have hR1 : RefA (mset V 328 11 (i : Int)) (mset s 328 11 (i : Int)) := by
        have := j1.set (k := 328) (j := 11) (a := (i : Int))
        rw [mset_mset] at this
        exact this
      refine wp_bnd _ (r_before h1 hfu hR1) ?_
      rintro w s3 ⟨rfl, d2, d3, d4, d5⟩
      refine wp_bnd _ (r_strandedNow h1.1 hfu (d3.1.j (by omega)) d3.2.1 (fun q hq => (d2.1 q hq).1)) ?_
      rintro w s' ⟨rfl, rfl⟩
      rw [show totv (mset V 328 11 (i : Int)) = cT V i from rfl, show strv (mset V 328 11 (i : Int)) = cS V i from rfl]
      have hlo : Lo σ s3 := (j2.set (by omega)).trans d4
      have htake : (i = 0 ∨ cS V i < (ceF V i).2.1 ∨ (cS V i = (ceF V i).2.1 ∧ cT V i < (ceF V i).2.2)) → (i : Int) = (ceF V (i + 1)).1 ∧ cT V i = (ceF V (i + 1)).2.2 ∧ cS V i = (ceF V (i + 1)).2.1 ∧ (∃ g, RefA (mset V 328 11 g) s3) ∧ Lo σ s3 := by
        intro g; rw [ceF_take g]; exact ⟨rfl, rfl, rfl, ⟨_, d3⟩, hlo⟩
      have hkeep : ¬ (i = 0 ∨ cS V i < (ceF V i).2.1 ∨ (cS V i = (ceF V i).2.1 ∧ cT V i < (ceF V i).2.2)) → (ceF V i).1 = (ceF V (i + 1)).1 ∧ (ceF V i).2.2 = (ceF V (i + 1)).2.2 ∧ (ceF V i).2.1 = (ceF V (i + 1)).2.1 ∧ (∃ g, RefA (mset V 328 11 g) s3) ∧ Lo σ s3 := by
        intro g; rw [ceF_keep g]; exact ⟨rfl, rfl, rfl, ⟨_, d3⟩, hlo⟩
      refine wp_jn (wp_jn ?_)
      refine iEq (fun g => hrec _ _ _ _ (htake (by omega))) (fun g1 => ?_)
      refine jLt (fun g => hrec _ _ _ _ (hkeep (by omega))) (fun g2 => ?_)
      refine jNe (fun g => hrec _ _ _ _ (htake (by omega))) (fun g3 => ?_)
      exact jLt (fun g => hrec _ _ _ _ (htake (by omega))) (fun g4 => hrec _ _ _ _ (hkeep (by omega)))
    · rintro n x y z s ⟨rfl, rfl, rfl, ⟨g0, j1⟩, j2⟩
      rw [fX7_centre_L20]
      refine iLe (fun _ => ?_) (fun h => by omega)
      refine wp_stf (wp_stf ?_)
      have hR1 : RefA V (mset s 328 11 (V 328 11)) := by
        have := j1.set (k := 328) (j := 11) (a := V 328 11)
        rw [mset_mset, mset_idm] at this
        exact this
      refine wp_bnd _ (r_tell fu (by rw [emp_19]; omega) (r_emp hR1)) ?_
      intro _ s3 ⟨q1, q2, q3⟩
      refine wp_bnd _ (r_tell fu (by rw [psh_19, emp_19]; omega) q1) ?_
      intro _ s4 ⟨w1, w2, w3⟩
      exact wp_some ⟨rfl, w1, ((lo19 (j2.set (by omega)) 0).trans q2).trans w2⟩
/-! spare -/
noncomputable def spW (V : Mem) : Nat → Mem
  | 0 => V
  | i + 1 => if spW V i 337 i = 0 ∧ totv (mset (spW V i) 337 i 1) = totv V ∧ strv (mset (spW V i) 337 i 1) = strv V then mset (spW V i) 337 i 1 else spW V i
noncomputable def sp1 (V : Mem) (i : Nat) : Int := if spW V i 337 i = 0 ∧ totv (mset (spW V i) 337 i 1) = totv V ∧ strv (mset (spW V i) 337 i 1) = strv V then 1 else 0
theorem spW_take {i : Nat} (h : spW V i 337 i = 0 ∧ totv (mset (spW V i) 337 i 1) = totv V ∧ strv (mset (spW V i) 337 i 1) = strv V) : spW V (i + 1) = mset (spW V i) 337 i 1 ∧ sp1 V i = 1 := ⟨if_pos h, if_pos h⟩
theorem spW_keep {i : Nat} (h : ¬ (spW V i 337 i = 0 ∧ totv (mset (spW V i) 337 i 1) = totv V ∧ strv (mset (spW V i) 337 i 1) = strv V)) : spW V (i + 1) = spW V i ∧ sp1 V i = 0 := ⟨if_neg h, if_neg h⟩
theorem sp1_01 (i : Nat) : sp1 V i = 0 ∨ sp1 V i = 1 := by unfold sp1; split <;> simp
theorem spW_ok (h : OkA t V) : ∀ i, i ≤ nn V → OkA t (spW V i) ∧ nn (spW V i) = nn V := by
  intro i
  induction i with
  | zero => intro _; exact ⟨h, rfl⟩
  | succ i ih =>
    intro hi
    obtain ⟨h1, h2⟩ := ih (by omega)
    by_cases g : spW V i 337 i = 0 ∧ totv (mset (spW V i) 337 i 1) = totv V ∧ strv (mset (spW V i) 337 i 1) = strv V
    · rw [(spW_take g).1]
      refine ⟨h1.setL' (by rw [h2]; omega) (by omega), ?_⟩
      rw [← h2]; unfold nn; rw [ms_k (by omega)]
    · rw [(spW_keep g).1]; exact ⟨h1, h2⟩
def bbW (W : Mem) (m : Int) : Nat → Mem
  | 0 => W
  | i + 1 => if and32 (shr32 m (i : Int)) 1 = 1 then mset (bbW W m i) 337 i 0 else bbW W m i
theorem bbW_take {i : Nat} {m : Int} (h : and32 (shr32 m (i : Int)) 1 = 1) : bbW W m (i + 1) = mset (bbW W m i) 337 i 0 := if_pos h
theorem bbW_keep {i : Nat} {m : Int} (h : ¬ and32 (shr32 m (i : Int)) 1 = 1) : bbW W m (i + 1) = bbW W m i := if_neg h
theorem bbW_ok {m : Int} (h : OkA t W) : ∀ i, i ≤ nn W → OkA t (bbW W m i) ∧ nn (bbW W m i) = nn W := by
  intro i
  induction i with
  | zero => intro _; exact ⟨h, rfl⟩
  | succ i ih =>
    intro hi
    obtain ⟨h1, h2⟩ := ih (by omega)
    by_cases g : and32 (shr32 m (i : Int)) 1 = 1
    · rw [bbW_take g]
      refine ⟨h1.setL' (by rw [h2]; omega) (by omega), ?_⟩
      rw [← h2]; unfold nn; rw [ms_k (by omega)]
    · rw [bbW_keep g]; exact ⟨h1, h2⟩
theorem bts_next {f : Nat → Int} {i : Nat} (hi : i < 12) (hf : ∀ i, f i = 0 ∨ f i = 1) : (f i = 0 → bts f (i + 1) = bts f i) ∧ (f i = 1 → bts f (i + 1) = or32 (bts f i) (shl32 1 (i : Int))) := by
  refine ⟨fun e => ?_, fun e => ?_⟩
  · show or32 (bts f i) (shl32 (f i) (i : Int)) = bts f i
    rw [e]; exact (bts_0 hi (fun i _ => hf i)).2
  · show or32 (bts f i) (shl32 (f i) (i : Int)) = _
    rw [e]
theorem op_spare (h : OkA t V) (hfu : 1000 < fu) : Op t V (fX6_spare fu) (fX7_spare fu) := by
  have hn := h.1.n
  have htv := totv_b h.1
  have hsv := strv_b h.1
  have hbc := bts_bc (f := sp1 V) (n := nn V) hn.2 (fun i _ => sp1_01 i)
  have hsb := smf_b (f := sp1 V) (nn V) (fun i _ => sp1_01 i)
  obtain ⟨hW, hWn⟩ := spW_ok h (nn V) (Nat.le_refl _)
  obtain ⟨hB, hBn⟩ := bbW_ok (m := bts (sp1 V) (nn V)) hW (nn V) (by omega)
  refine ⟨bts (sp1 V) (nn V), row1 (bbW (spW V (nn V)) (bts (sp1 V) (nn V)) (nn V)) (smf (sp1 V) (nn V)), (row1_ok hB).up, fun σ hC => ?_, fun σ hR => ?_⟩
  · unfold fX6_spare
    refine wp_bnd _ (c_totalNow h hfu hC) ?_
    rintro x s2 ⟨rfl, d2, d3, d4, d5⟩
    refine wp_lt ?_
    rw [d2]
    refine for2 (f := fX6_spare_L19 fu (totv V) (strv V) _) (nn V) (fun i x s => x = bts (sp1 V) i ∧ ClsA (spW V i) s ∧ Hi σ s) ?_ ?_ (i := 0) ⟨rfl, d3, d4⟩
    · rintro n i x s hi ⟨rfl, j1, j2⟩ hrec
      obtain ⟨hWi, hWin⟩ := spW_ok h i (by omega)
      have hli : i < nn (spW V i) := by omega
      have hL := j1.1.ln hli
      have h337 := (hWi.1.ok hli).2.2.2.2.1
      have hnx := bts_next (f := sp1 V) (i := i) (by omega) sp1_01
      have e9 : spW V i 328 9 = V 328 9 := by have := hWi.1.n; omega
      rw [fX6_spare_L19, j1.1.2.1, e9]
      refine iLe (fun h => by omega) (fun _ => ?_)
      refine wp_rfd (rR i rfl (by omega) ?_)
      rw [show pl (s (pl (s 136 0)) i) = PL s i from rfl, hL.2.2.2.2.1]
      refine wp_jn (iNe0 (fun g => hrec _ _ ?_) (fun g => ?_))
      · have hk := spW_keep (V := V) (i := i) (fun q => g q.1)
        rw [hk.1, hnx.1 hk.2]; exact ⟨rfl, j1, j2⟩
      · refine wp_stz (Or.inr rfl) ?_
        have h1 := hWi.setL' (k := 337) (a := 1) hli (by omega)
        have hP := j1.1.isL hWi.1 hli
        have htb := totv_b h1.1
        have hsb := strv_b h1.1
        refine wp_bnd _ (c_whatL hWi h1 hfu hli (by omega) j1) ?_
        intro _ s4 ⟨e1, e2, e3, e4, e5, e6, e7⟩
        rw [g] at e4
        refine wp_jn ?_
        rw [e1, e2]
        have hback : ¬ (spW V i 337 i = 0 ∧ totv (mset (spW V i) 337 i 1) = totv V ∧ strv (mset (spW V i) 337 i 1) = strv V) → bts (sp1 V) i = bts (sp1 V) (i + 1) ∧ ClsA (spW V (i + 1)) (mset s4 (PL s i) 4 0) ∧ Hi σ (mset s4 (PL s i) 4 0) := by
          intro q
          have hk := spW_keep q
          rw [hk.1, hnx.1 hk.2]
          exact ⟨rfl, e4, (j2.trans e5).set (by omega)⟩
        refine jNe (fun g2 => wp_stz (Or.inl rfl) (hrec _ _ (hback (fun q => g2 q.2.1)))) (fun g2 => ?_)
        refine jNe (fun g3 => wp_stz (Or.inl rfl) (hrec _ _ (hback (fun q => g3 q.2.2)))) (fun g3 => ?_)
        have hk := spW_take (V := V) (i := i) ⟨g, g2, g3⟩
        refine wp_lt (hrec _ _ ?_)
        rw [hk.1, hnx.2 hk.2]
        exact ⟨rfl, e3, j2.trans e5⟩
    · rintro n x s ⟨rfl, j1, j2⟩
      have e9 : spW V (nn V) 328 9 = V 328 9 := by have := hW.1.n; omega
      rw [fX6_spare_L19, j1.1.2.1, e9]
      refine iLe (fun _ => ?_) (fun h => by omega)
      refine wp_bnd (fun _ s' => ClsA (bbW (spW V (nn V)) (bts (sp1 V) (nn V)) (nn V)) s' ∧ Hi σ s') ?_ ?_
      · unfold fX2_bringBack
        refine for1 (f := fX2_bringBack_L2 fu (bts (sp1 V) (nn V)) _) (nn V) (fun i s' => ClsA (bbW (spW V (nn V)) (bts (sp1 V) (nn V)) i) s' ∧ Hi σ s') ?_ ?_ (i := 0) ⟨j1, j2⟩
        · intro n i s' hi ⟨g1, g2⟩ hrec
          obtain ⟨hBi, hBin⟩ := bbW_ok (m := bts (sp1 V) (nn V)) hW i (by omega)
          have hli : i < nn (bbW (spW V (nn V)) (bts (sp1 V) (nn V)) i) := by omega
          have e9 : bbW (spW V (nn V)) (bts (sp1 V) (nn V)) i 328 9 = V 328 9 := by have := hBi.1.n; omega
          have hand := and32_R (shr32 (bts (sp1 V) (nn V)) (i : Int)) 1
          rw [fX2_bringBack_L2, g1.1.2.1, e9]
          refine iLe (fun h => by omega) (fun _ => ?_)
          refine wp_jn (iNe (fun q => hrec _ ?_) (fun q => ?_) hand)
          · rw [bbW_keep q]; exact ⟨g1, g2⟩
          · refine wp_rfd (rR i rfl (by omega) (wp_stz (Or.inl rfl) (hrec _ ?_)))
            rw [show pl (s' (pl (s' 136 0)) i) = PL s' i from rfl, bbW_take q]
            have hP := g1.1.isL hBi.1 hli
            exact ⟨clsA_setL g1 hBi.1 hli (by omega), g2.set (by omega)⟩
        · intro n s' ⟨g1, g2⟩
          have e9 : bbW (spW V (nn V)) (bts (sp1 V) (nn V)) (nn V) 328 9 = V 328 9 := by have := hB.1.n; omega
          rw [fX2_bringBack_L2, g1.1.2.1, e9]
          exact iLe (fun _ => wp_some ⟨g1, g2⟩) (fun h => by omega)
      · intro _ s' ⟨g1, g2⟩
        refine wp_bnd _ (c_bitCount fu _ _) ?_
        rintro x s'' ⟨rfl, rfl⟩
        rw [hbc, w32_sm (by omega) (by omega)]
        refine wp_bnd _ (c_putOne fu hB.1 g1) ?_
        intro _ s3 ⟨q1, q2, q3⟩
        exact wp_some ⟨rfl, q1, g2.trans q2⟩
  · unfold fX7_spare
    refine wp_stf ?_
    refine wp_bnd _ (r_before h hfu hR.s20) ?_
    rintro x s2 ⟨rfl, d2, d3, d4, d5⟩
    refine wp_stf ?_
    refine wp_bnd _ (r_strandedNow h.1 hfu (by rw [ms_j (by omega)]; exact d3.1.j (by omega)) (fun q hq => by rw [ms_k (by omega)]; exact d3.2.1 q hq) (fun q hq => by rw [ms_k (by omega)]; exact (d2.1 q hq).1)) ?_
    rintro x s' ⟨rfl, rfl⟩
    have hR3 : RefA V (mset s2 328 47 (totv V)) := d3.s47
    have h47 : mset s2 328 47 (totv V) 328 47 = totv V := ms_eq _ _ _ _
    have hlo3 : Lo σ (mset s2 328 47 (totv V)) := (lo20 σ 0).trans (d4.set (by omega))
    generalize mset s2 328 47 (totv V) = s3 at *
    refine for3 (f := fX7_spare_L26 fu (strv V) _) (nn V) (fun i x y s => x = bts (sp1 V) i ∧ y = smf (sp1 V) i ∧ RefA (spW V i) s ∧ s 328 47 = totv V ∧ Lo σ s) ?_ ?_ (i := 0) ⟨rfl, rfl, hR3, h47, hlo3⟩
    · rintro n i x y s hi ⟨rfl, rfl, j1, j47, j2⟩ hrec
      obtain ⟨hWi, hWin⟩ := spW_ok h i (by omega)
      have hli : i < nn (spW V i) := by omega
      have h337 := (hWi.1.ok hli).2.2.2.2.1
      have hnx := bts_next (f := sp1 V) (i := i) (by omega) sp1_01
      have e9 : spW V i 328 9 = V 328 9 := by have := hWi.1.n; omega
      have hsm : smf (sp1 V) (i + 1) = smf (sp1 V) i + sp1 V i := rfl
      rw [fX7_spare_L26, j1.1.j (by omega), e9]
      refine iLe (fun h => by omega) (fun _ => ?_)
      refine rI i rfl (by omega) ?_
      rw [j1.1.2 337 _ (by omega) (by omega)]
      refine wp_jn (iEq0 (fun g => ?_) (fun g => hrec _ _ _ ?_))
      · refine wI i rfl (by omega) ?_
        rw [n1_1]
        have h1 := hWi.setL' (k := 337) (a := 1) hli (by omega)
        have htb := totv_b h1.1
        have hsb := strv_b h1.1
        refine wp_bnd _ (r_what h1 hfu j1 (by omega)) ?_
        rintro x s4 ⟨rfl, e2, e3, e4, e5, e6⟩
        rw [g] at e4
        have e47 : s4 328 47 = totv V := by rw [e6.at (by omega), ms_k (by omega)]; exact j47
        refine wp_jn ?_
        rw [e47]
        have hback : ¬ (spW V i 337 i = 0 ∧ totv (mset (spW V i) 337 i 1) = totv V ∧ strv (mset (spW V i) 337 i 1) = strv V) → bts (sp1 V) i = bts (sp1 V) (i + 1) ∧ smf (sp1 V) i = smf (sp1 V) (i + 1) ∧ RefA (spW V (i + 1)) (mset s4 337 i (n1 0)) ∧ mset s4 337 i (n1 0) 328 47 = totv V ∧ Lo σ (mset s4 337 i (n1 0)) := by
          intro q
          have hk := spW_keep q
          rw [n1_0, hk.1, hnx.1 hk.2, hsm, hk.2]
          exact ⟨rfl, by omega, e4, by rw [ms_k (by omega)]; exact e47, (j2.trans e5).set (by omega)⟩
        refine jNe (fun g2 => wI i rfl (by omega) (hrec _ _ _ (hback (fun q => g2 q.2.1)))) (fun g2 => ?_)
        refine wp_bnd _ (r_strandedNow (V := mset (spW V i) 337 i 1) h1.1 hfu (e3.1.j (by omega)) e3.2.1 (fun q hq => (e2.1 q hq).1)) ?_
        rintro x s' ⟨rfl, rfl⟩
        refine jNe (fun g3 => wI i rfl (by omega) (hrec _ _ _ (hback (fun q => g3 q.2.2)))) (fun g3 => ?_)
        have hk := spW_take (V := V) (i := i) ⟨g, g2, g3⟩
        refine wp_lt (hrec _ _ _ ?_)
        rw [hk.1, hnx.2 hk.2, hsm, hk.2]
        exact ⟨rfl, rfl, e3, e47, j2.trans e5⟩
      · have hk := spW_keep (V := V) (i := i) (fun q => g q.1)
        rw [hk.1, hnx.1 hk.2, hsm, hk.2]; exact ⟨rfl, by omega, j1, j47, j2⟩
    · rintro n x y s ⟨rfl, rfl, j1, j47, j2⟩
      have e9 : spW V (nn V) 328 9 = V 328 9 := by have := hW.1.n; omega
      rw [fX7_spare_L26, j1.1.j (by omega), e9]
      refine iLe (fun _ => ?_) (fun h => by omega)
      refine for1 (f := fX7_spare_L107 fu (bts (sp1 V) (nn V)) (smf (sp1 V) (nn V)) _) (nn V) (fun i s' => RefA (bbW (spW V (nn V)) (bts (sp1 V) (nn V)) i) s' ∧ Lo σ s') ?_ ?_ (i := 0) ⟨j1, j2⟩
      · intro n i s' hi ⟨g1, g2⟩ hrec
        obtain ⟨hBi, hBin⟩ := bbW_ok (m := bts (sp1 V) (nn V)) hW i (by omega)
        have e9 : bbW (spW V (nn V)) (bts (sp1 V) (nn V)) i 328 9 = V 328 9 := by have := hBi.1.n; omega
        have hand := and32_R (shr32 (bts (sp1 V) (nn V)) (i : Int)) 1
        rw [fX7_spare_L107, g1.1.j (by omega), e9]
        refine iLe (fun h => by omega) (fun _ => ?_)
        refine wp_jn (iNe (fun q => hrec _ ?_) (fun q => wI i rfl (by omega) (hrec _ ?_)) hand)
        · rw [bbW_keep q]; exact ⟨g1, g2⟩
        · rw [bbW_take q, n1_0]; exact ⟨g1.set, g2.set (by omega)⟩
      · intro n s' ⟨g1, g2⟩
        have e9 : bbW (spW V (nn V)) (bts (sp1 V) (nn V)) (nn V) 328 9 = V 328 9 := by have := hB.1.n; omega
        rw [fX7_spare_L107, g1.1.j (by omega), e9]
        refine iLe (fun _ => ?_) (fun h => by omega)
        refine wp_stf ?_
        rw [w32_sm (by omega) (by omega)]
        refine wp_bnd _ (r_tell fu (by rw [emp_19]; omega) (r_emp g1)) ?_
        intro _ s4 ⟨q1, q2, q3⟩
        exact wp_some ⟨rfl, q1, (lo19 g2 0).trans q2⟩
end WHAT3
