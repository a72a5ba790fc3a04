/-! ===== the reference reads a line ===== -/
section RLINE
variable {V V' U σ σ' σ'' X W : Mem} {z : Nat → Int} {N a m room c Q fu k j p i t n : Nat} {v x f ch e4 a0 : Int} {w : zWS} {st mi st' mi' : Nat → Int} {LS : Nat → zLn}
theorem erW_r (h : TxZ z N) (hw : w.1 ≤ N) : -1 ≤ erW z w ∧ erW z w ≤ 402 := by
  have hN := h.1
  unfold erW
  by_cases g1 : z w.1 ≠ 45
  · rw [if_pos g1]; omega
  · rw [if_neg g1]
    have hl := h.lt (i := w.1) (by omega)
    have hr := rNum_r (most := 99) (a := w.1 + 1) h (by omega)
    by_cases g2 : rNum z 99 (w.1 + 1) ≠ -1
    · rw [if_pos g2]; exact hr
    · rw [if_neg g2]
      have hn := rNum_ok (most := 99) (a := w.1 + 1) h (by omega)
      have hna := nA_is h hn.1
      by_cases g3 : z (nA z (w.1 + 1)) ≠ 45
      · rw [if_pos g3]; omega
      · rw [if_neg g3]; exact stW_r (by omega)
theorem wyL_r (h : TxZ z N) : ∀ n w, WOk w → w.1 ≤ N → -1 ≤ (wyL z n w).1 ∧ (wyL z n w).1 ≤ 402 := by
  intro n
  induction n with
  | zero => intro w _ _; show -1 ≤ (-1 : Int) ∧ (-1 : Int) ≤ 402; omega
  | succ n ih =>
    intro w hw hN
    have e : wyL z (n + 1) w = if z w.1 ≠ 45 then ((-1 : Int), w) else if erW z w ≠ -1 then (erW z w, w) else wyL z n (nxW z w) := rfl
    by_cases g1 : z w.1 ≠ 45
    · rw [e, if_pos g1]; show -1 ≤ (-1 : Int) ∧ (-1 : Int) ≤ 402; omega
    · by_cases g2 : erW z w ≠ -1
      · rw [e, if_neg g1, if_pos g2]; exact erW_r h hN
      · rw [e, if_neg g1, if_neg g2]
        have hx := nxW_ok h hw (by omega)
        exact ih _ hx.1 hx.2
theorem w1_ok (h : TxZ z N) (g1 : stW z a 0 (fun _ => 0) = -1) : dig (z a) ∧ a < N ∧ WOk (w1S z a) := by
  have hd : dig (z a) := by
    unfold stW at g1
    by_cases q : dig (z a) ∧ hsI (fun _ => 0) (z a - 48) 0 = 0
    · exact q.1
    · rw [if_neg q] at g1; omega
  refine ⟨hd, h.lt (by omega), Nat.le_refl _, fun p hp => ?_, fun p q hp hq _ => ?_, fun p hp => ?_⟩
  · have hp : p < 1 := hp
    show 0 ≤ upf (fun _ => 0) 0 (z a - 48) p ∧ upf (fun _ => 0) 0 (z a - 48) p ≤ 9
    unfold upf; rw [if_pos (by omega)]; omega
  · have hp : p < 1 := hp
    have hq : q < 1 := hq
    omega
  · have hp : p + 1 < 1 := hp
    omega
theorem wyE_r (h : TxZ z N) (ha : a ≤ 402) : -1 ≤ (wyE z a).1 ∧ (wyE z a).1 ≤ 402 := by
  by_cases g1 : stW z a 0 (fun _ => 0) ≠ -1
  · have e1 : wyE z a = (stW z a 0 (fun _ => 0), w1S z a) := if_pos g1
    rw [e1]; exact stW_r ha
  · obtain ⟨hd, hl, hw⟩ := w1_ok h (a := a) (by omega)
    by_cases g2 : erW z (w1S z a) ≠ -1
    · have e1 : wyE z a = (erW z (w1S z a), w1S z a) := by unfold wyE; rw [if_neg g1, if_pos g2]
      rw [e1]; exact erW_r h (by show a + 1 ≤ N; omega)
    · have e1 : wyE z a = wyL z 6 (nxW z (w1S z a)) := by unfold wyE; rw [if_neg g1, if_neg g2]
      have hx := nxW_ok h hw (by omega)
      rw [e1]; exact wyL_r h 6 _ hx.1 hx.2
theorem rlW_r (h : TxZ z N) (ha : a ≤ N) : -1 ≤ rlW z a m room ∧ rlW z a m room ≤ 402 := by
  have hN := h.1
  unfold rlW
  by_cases g1 : room ≤ m
  · rw [if_pos g1]; omega
  · rw [if_neg g1]
    have hr := rNum_r (most := 60) (a := a) h ha
    by_cases g2 : rNum z 60 a ≠ -1
    · rw [if_pos g2]; exact hr
    · rw [if_neg g2]
      have hna := nA_is h (rNum_ok (most := 60) (a := a) h (by omega)).1
      by_cases g3 : z (nA z a) = 61 ∧ room ≤ m + 1
      · rw [if_pos g3]; omega
      · rw [if_neg g3]
        by_cases g4 : z (nA z a) ≠ 61 ∧ z (nA z a) ≠ 58
        · rw [if_pos g4]; omega
        · rw [if_neg g4]; exact wyE_r h (by omega)
theorem FR2.frr (h : FR2 σ σ') : FrR σ σ' := fun k j => by have := h k j; omega
theorem FrM1.frr (h : FrM1 m σ σ') : FrR σ σ' := fun k j => by have := h k j; omega
theorem FrR.trans (h : FrR σ σ') (g : FrR σ' σ'') : FrR σ σ'' := fun k j => by have := h k j; have := g k j; omega
/-- with a fault nothing more is read -/
theorem r_L121W {K1 K2 : Mem → PR} {Q : Int → Mem → Prop} (hfu : 1000 < fu) (hw : σ 328 28 ≠ -1) (hb : R32 (σ 328 28)) (hK : wp (K1 σ) Q) : wp (fX7_readLine_L121 fu e4 K1 K2 fu σ) Q := by
  have key : ∀ g, fu = g + 1 → wp (fX7_readLine_L121 fu e4 K1 K2 (g + 1) σ) Q := by
    intro g _
    rw [fX7_readLine_L121]
    refine wp_bnd _ (r_expectW hw hb) ?_
    rintro _ s1 rfl
    exact iEq (fun q => absurd q hw) (fun _ => hK)
  have := key (fu - 1) (by omega)
  rw [show fu - 1 + 1 = fu by omega] at this
  exact this
theorem r_line (h : TxZ z N) (hfu : 1000 < fu) (hT : TxR z N a σ) (ha : a ≤ N) (hw : σ 328 28 = -1) (hR : RdR LS m σ) (hLS : ∀ k, k < m → OkLn (LS k)) (hr : room ≤ 12) (hmr : m ≤ room) (ha0 : a0 = 12 - (room : Int)) : wp (fX7_readLine fu a0 σ) (fun _ σ' => ((rlW z a m room ≠ -1 ∧ σ' 328 28 = rlW z a m room) ∨ (rlW z a m room = -1 ∧ σ' 328 28 = -1 ∧ σ' 328 27 = (rlA z a : Int) ∧ RdR (adL z a LS m) (adM z a m) σ')) ∧ FrR σ σ') := by
  have hN := h.1
  obtain ⟨q1, q2, q3⟩ := hR
  have hrr := rlW_r (m := m) (room := room) h ha
  unfold fX7_readLine
  refine wp_lt ?_
  rw [q1]
  refine iNe (fun g12 => ?_) (fun g12 => ?_)
  · have hmr : m < room := by omega
    have hm : m < 12 := by omega
    refine wI m rfl hm ?_
    have hf0 : FrR σ (mset σ 343 m 0) := fun k j => by
      by_cases e : k = 343 ∧ j = m
      · right; left; omega
      · rw [mset_eq, if_neg e]; simp
    have hT0 : TxR z N a (mset σ 343 m 0) := ⟨by rw [ms_k (by omega)]; exact hT.1, fun i hi => by rw [ms_k (by omega)]; exact hT.2.1 i hi, by rw [ms_k (by omega)]; exact hT.2.2⟩
    have hw0 : mset σ 343 m 0 328 28 = -1 := by rw [ms_k (by omega)]; exact hw
    have h250 : mset σ 343 m 0 328 25 = (m : Int) := by rw [ms_k (by omega)]; exact q1
    have h3430 : mset σ 343 m 0 343 m = 0 := ms_eq _ _ _ _
    have hold0 : ∀ k j, ¬ (k = 343 ∧ j = m) → mset σ 343 m 0 k j = σ k j := fun k j g => by rw [mset_eq, if_neg g]
    generalize mset σ 343 m 0 = s1 at *
    refine wp_bnd _ (r_number h hfu hT0 ha (by omega) hw0) ?_
    intro v2 s2 ⟨g2, f2⟩
    rw [h250]
    refine wI m rfl hm ?_
    have hf3 : FrR σ (mset s2 342 m v2) := fun k j => by
      by_cases e : k = 342 ∧ j = m
      · right; left; omega
      · rw [mset_eq, if_neg e]; have := f2 k j; have := hf0 k j; omega
    have h25c : mset s2 342 m v2 328 25 = (m : Int) := by rw [ms_k (by omega), ← h250]; have := f2 328 25; omega
    rcases g2 with ⟨g2, g2', bb, hbb, g2t⟩ | ⟨g2, g2', rfl, g2''⟩
    · -- the number is wrong
      have er : rlW z a m room = rNum z 60 a := by unfold rlW; rw [if_neg (by omega), if_pos g2]
      have hT2 := f2.tx hT0 g2t
      have hT3 : TxR z N bb (mset s2 342 m v2) := ⟨by rw [ms_k (by omega)]; exact hT2.1, fun i hi => by rw [ms_k (by omega)]; exact hT2.2.1 i hi, by rw [ms_k (by omega)]; exact hT2.2.2⟩
      have h28 : mset s2 342 m v2 328 28 = rlW z a m room := by rw [ms_k (by omega), g2', er]
      have hne : rlW z a m room ≠ -1 := by rw [er]; exact g2
      generalize mset s2 342 m v2 = s3 at *
      have hbz := h.b bb
      refine wp_bnd _ (r_sees h hT3 (by omega)) ?_
      rintro y s4 ⟨rfl, rfl⟩
      have hgo : ∀ y : Int, (y = 0 ∨ y = 1) → wp (jn (fun s6 => jn (fun s7 => bnd (fX7_readStop fu s7) (fun _ s8 => fX7_readLine_L121 fu y (fun s20 => some (0, s20)) (fun s21 => stf s21 328 25 ((s21 328 25) + 1) (fun s22 => jn (fun s23 => some (0, s23)) (fun (j4 : Mem → PR) => if w32 y = 0 then j4 s22 else bnd (fX7_readsBack fu s22) (fun _ s24 => j4 s24)))) fu s8)) (fun (j3 : Mem → PR) => if w32 y = 0 then bnd (fX7_expect fu 58 s6) (fun _ s26 => j3 s26) else stf s6 328 27 ((s6 328 27) + 1) (fun s27 => j3 s27))) (fun (j2 : Mem → PR) => if w32 (s3 328 28) ≠ w32 (-1) then j2 s3 else if w32 y = 0 then j2 s3 else if w32 (a0 + (s3 328 25)) ≠ w32 11 then j2 s3 else bnd (fX7_fault fu (σ 328 27) s3) (fun _ s29 => some (0, s29)))) (fun _ σ' => ((rlW z a m room ≠ -1 ∧ σ' 328 28 = rlW z a m room) ∨ (rlW z a m room = -1 ∧ σ' 328 28 = -1 ∧ σ' 328 27 = (rlA z a : Int) ∧ RdR (adL z a LS m) (adM z a m) σ')) ∧ FrR σ σ') := by
        intro y y0
        have hfin : ∀ s7 : Mem, s7 328 28 = rlW z a m room → FrR σ s7 → wp (bnd (fX7_readStop fu s7) (fun _ s8 => fX7_readLine_L121 fu y (fun s20 => some (0, s20)) (fun s21 => stf s21 328 25 ((s21 328 25) + 1) (fun s22 => jn (fun s23 => some (0, s23)) (fun (j4 : Mem → PR) => if w32 y = 0 then j4 s22 else bnd (fX7_readsBack fu s22) (fun _ s24 => j4 s24)))) fu s8)) (fun _ σ' => ((rlW z a m room ≠ -1 ∧ σ' 328 28 = rlW z a m room) ∨ (rlW z a m room = -1 ∧ σ' 328 28 = -1 ∧ σ' 328 27 = (rlA z a : Int) ∧ RdR (adL z a LS m) (adM z a m) σ')) ∧ FrR σ σ') := by
          intro s7 e7 f7
          refine wp_bnd _ (r_stopW (by rw [e7]; exact hne) (by rw [e7]; omega)) ?_
          rintro _ s8 rfl
          exact r_L121W hfu (by rw [e7]; exact hne) (by rw [e7]; omega) (wp_some ⟨Or.inl ⟨hne, e7⟩, f7⟩)
        refine wp_jn ?_
        rw [h28]
        refine iNe (fun _ => ?_) (fun g => absurd g hne)
        refine wp_jn (iEq0 (fun _ => ?_) (fun _ => wp_stf (hfin _ ?_ (fun k j => ?_))))
        · refine wp_bnd _ (r_expectW (by rw [h28]; exact hne) (by rw [h28]; omega)) ?_
          rintro _ s7 rfl
          exact hfin s3 h28 hf3
        · rw [ms_j (by omega)]; exact h28
        · by_cases e : k = 328 ∧ j = 27
          · left; omega
          · rw [mset_eq, if_neg e]; exact hf3 k j
      refine wp_jn (iNe (fun _ => hgo 0 (Or.inl rfl)) (fun _ => hgo 1 (Or.inr rfl)))
    · have hn := rNum_ok h g2
      have hna := nA_is h hn.1
      have hT2 := f2.tx hT0 g2''
      have hT3 : TxR z N (nA z a) (mset s2 342 m (nV z a)) := ⟨by rw [ms_k (by omega)]; exact hT2.1, fun i hi => by rw [ms_k (by omega)]; exact hT2.2.1 i hi, by rw [ms_k (by omega)]; exact hT2.2.2⟩
      have h283 : mset s2 342 m (nV z a) 328 28 = -1 := by rw [ms_k (by omega)]; exact g2'
      have h3423 : mset s2 342 m (nV z a) 342 m = nV z a := ms_eq _ _ _ _
      have h3433 : mset s2 342 m (nV z a) 343 m = 0 := by rw [ms_k (by omega), ← h3430]; have := f2 343 m; omega
      have hold3 : ∀ k j, ¬ ((k = 342 ∨ k = 343) ∧ j = m) → ¬ (k = 328 ∧ (j = 27 ∨ j = 28)) → mset s2 342 m (nV z a) k j = σ k j := fun k j g1 g2 => by
        rw [mset_eq, if_neg (by omega), ← hold0 k j (by omega)]; exact (f2 k j).resolve_left g2
      generalize mset s2 342 m (nV z a) = s3 at *
      have hbz := h.b (nA z a)
      refine wp_bnd _ (r_sees h hT3 (by omega)) ?_
      rintro y s4 ⟨rfl, rfl⟩
      -- the flag of the sign =
      refine wp_ji (fun y s5 => (y = 0 ∨ y = 1) ∧ (y = 1 ↔ z (nA z a) = 61) ∧ s3 = s5) ?_ ?_
      · rintro y s5 ⟨y0, y1, rfl⟩
        refine wp_jm (fun s6 => s3 = s6 ∧ ¬ (z (nA z a) = 61 ∧ room ≤ m + 1)) ?_ ?_
        · rintro s6 ⟨rfl, hno⟩
          have hendW : ∀ s8 : Mem, rlW z a m room ≠ -1 → s8 328 28 = rlW z a m room → FrR σ s8 → wp (fX7_readLine_L121 fu y (fun s20 => some (0, s20)) (fun s21 => stf s21 328 25 ((s21 328 25) + 1) (fun s22 => jn (fun s23 => some (0, s23)) (fun (j4 : Mem → PR) => if w32 y = 0 then j4 s22 else bnd (fX7_readsBack fu s22) (fun _ s24 => j4 s24)))) fu s8) (fun _ σ' => ((rlW z a m room ≠ -1 ∧ σ' 328 28 = rlW z a m room) ∨ (rlW z a m room = -1 ∧ σ' 328 28 = -1 ∧ σ' 328 27 = (rlA z a : Int) ∧ RdR (adL z a LS m) (adM z a m) σ')) ∧ FrR σ σ') := by
            intro s8 hne e8 f8
            exact r_L121W hfu (by rw [e8]; exact hne) (by rw [e8]; omega) (wp_some ⟨Or.inl ⟨hne, e8⟩, f8⟩)
          -- behind : or =
          refine wp_jm (fun s7 => (s7 328 28 = -1 ∧ s7 328 27 = ((nA z a + 1 : Nat) : Int) ∧ (z (nA z a) = 61 ∨ z (nA z a) = 58) ∧ FR2 s3 s7) ∨ (s7 328 28 = rlW z a m room ∧ rlW z a m room ≠ -1 ∧ FR2 s3 s7)) ?_ ?_
          · intro s7 g7
            rcases g7 with ⟨g7a, g7b, g7c, f7⟩ | ⟨g7a, g7b, f7⟩
            · have er : rlW z a m room = (wyE z (nA z a + 1)).1 := by unfold rlW; rw [if_neg (by omega), if_neg (fun q => q g2), if_neg hno, if_neg (by omega)]
              have hal := h.lt (i := nA z a) (by omega)
              have hT7 := f7.tx hT3 g7b
              have h257 : s7 328 25 = (m : Int) := by rw [← h25c]; have := f7 328 25; omega
              have hL7 : LnR m (nV z a, 0, (fun _ => 0), (fun _ => 0)) s7 := ⟨by rw [show s7 342 m = s3 342 m by have := f7 342 m; omega]; exact h3423, by rw [show s7 343 m = s3 343 m by have := f7 343 m; omega, h3433]; rfl, fun p hp => by have hp : p < 0 := hp; omega, fun p hp => by have hp : p + 1 < 0 := hp; omega⟩
              refine wp_bnd _ (r_stop h hfu hT7 (by omega) g7a hm h257 hL7 (by omega) (fun p hp => by omega)) ?_
              intro _ s8 ⟨g8, f8w, f8⟩
              have hfr8 : FrR σ s8 := hf3.trans (fun k j => by have := f7 k j; have := f8 k j; omega)
              rcases g8 with ⟨g8, g8', g8t⟩ | ⟨g8, g8', g8t, g8c, g8s⟩
              · have e1 : wyE z (nA z a + 1) = (stW z (nA z a + 1) 0 (fun _ => 0), w1S z (nA z a + 1)) := if_pos g8
                have er2 : rlW z a m room = stW z (nA z a + 1) 0 (fun _ => 0) := by rw [er, e1]
                exact hendW s8 (by rw [er2]; exact g8) (by rw [g8', er2]) hfr8
              · obtain ⟨hd, hl, hw1⟩ := w1_ok h g8
                have ewy : wyE z (nA z a + 1) = eEn z 6 (w1S z (nA z a + 1)) := by unfold wyE eEn; rw [if_neg (fun q => q g8)]
                have hT8 : TxR z N (w1S z (nA z a + 1)).1 s8 := ⟨by rw [← hT7.1]; have := f8 328 26; omega, fun i hi => by rw [← hT7.2.1 i hi]; have := f8 340 i; rw [show s8 340 i = s7 340 i by omega], g8t⟩
                have h258 : s8 328 25 = (m : Int) := by rw [← h257]; have := f8 328 25; omega
                have hL8 : LnR m (lnO (nV z a) (w1S z (nA z a + 1))) s8 := by
                  refine ⟨?_, g8c, fun p hp => ?_, fun p hp => ?_⟩
                  · have hL71 : s7 342 m = nV z a := hL7.1
                    show s8 342 m = nV z a
                    rw [← hL71]; have := f8 342 m; omega
                  · have hp : p < 1 := hp
                    show _ = upf (fun _ => 0) 0 (z (nA z a + 1) - 48) p
                    unfold upf
                    rw [if_pos (by omega), show p = 0 by omega]; exact g8s
                  · have hp : p + 1 < 1 := hp
                    omega
                have hfrM : FrM1 m s3 s8 := fun k j => by have := f7 k j; have := f8 k j; omega
                have hK210 : ∀ s' : Mem, s' 328 25 = (m : Int) → (∃ c : Nat, c ≤ 8 ∧ s' 343 m = (c : Int)) → FrM1 m s3 s' → (s' 328 28 = rlW z a m room) → (rlW z a m room = -1 → s' 328 27 = (rlA z a : Int) ∧ LnR m (rlL z a) s') → wp (stf s' 328 25 ((s' 328 25) + 1) (fun s22 => jn (fun s23 => some (0, s23)) (fun (j4 : Mem → PR) => if w32 y = 0 then j4 s22 else bnd (fX7_readsBack fu s22) (fun _ s24 => j4 s24)))) (fun _ σ' => ((rlW z a m room ≠ -1 ∧ σ' 328 28 = rlW z a m room) ∨ (rlW z a m room = -1 ∧ σ' 328 28 = -1 ∧ σ' 328 27 = (rlA z a : Int) ∧ RdR (adL z a LS m) (adM z a m) σ')) ∧ FrR σ σ') := by
                  intro s' k25 ⟨cc, hcc, kc⟩ kf k28 kok
                  refine wp_stf ?_
                  rw [k25]
                  have hfr9 : FrR σ (mset s' 328 25 ((m : Int) + 1)) := hf3.trans (fun k j => by
                    by_cases e : k = 328 ∧ j = 25
                    · left; omega
                    · rw [mset_eq, if_neg e]; have := kf k j; omega)
                  have h259 : mset s' 328 25 ((m : Int) + 1) 328 25 = ((m + 1 : Nat) : Int) := by rw [ms_eq]; omega
                  have hk9 : ∀ k j, ¬ (k = 328 ∧ j = 25) → mset s' 328 25 ((m : Int) + 1) k j = s' k j := fun k j g => by rw [mset_eq, if_neg g]
                  generalize mset s' 328 25 ((m : Int) + 1) = s9 at *
                  have hold9 : ∀ q jj, (q = 342 ∨ q = 343) → jj < m → s9 q jj = σ q jj := fun q jj hq hj => by
                    rw [hk9 _ _ (by omega)]; have := kf q jj; have := hold3 q jj (by omega) (by omega); omega
                  have hold9b : ∀ q jj, (q = 344 ∨ q = 345) → jj < 8 * m → s9 q jj = σ q jj := fun q jj hq hj => by
                    rw [hk9 _ _ (by omega)]; have := kf q jj; have := hold3 q jj (by omega) (by omega); omega
                  have hLold : ∀ s'' : Mem, (∀ q jj, (q = 342 ∨ q = 343) → jj < m → s'' q jj = σ q jj) → (∀ q jj, (q = 344 ∨ q = 345) → jj < 8 * m → s'' q jj = σ q jj) → ∀ k, k < m → (LS k).2.1 ≤ 8 → LnR k (LS k) s'' := fun s'' b1 b2 k hk h8 => (q3 k hk).mv h8 (b1 _ _ (Or.inl rfl) hk) (b1 _ _ (Or.inr rfl) hk) (fun j b3 b4 => ⟨b2 _ _ (Or.inl rfl) (by omega), b2 _ _ (Or.inr rfl) (by omega)⟩)
                  have hzn : ∀ g : rlW z a m room = -1, OkLn (rlL z a) := fun g => (rlL_ok h g).1
                  refine wp_jn (iEq0 (fun q => wp_some ⟨?_, hfr9⟩) (fun q => ?_))
                  · by_cases gw : rlW z a m room = -1
                    · refine Or.inr ⟨gw, by rw [hk9 _ _ (by omega), k28, gw], by rw [hk9 _ _ (by omega)]; exact (kok gw).1, ?_⟩
                      have hz : z (nA z a) ≠ 61 := fun g => by have := y1.mpr g; omega
                      have eM : adM z a m = m + 1 := if_neg hz
                      have eL : adL z a LS m = updL LS m (rlL z a) := if_neg hz
                      rw [eM, eL]
                      refine ⟨h259, by omega, fun k hk => ?_⟩
                      by_cases e : k = m
                      · have eU : updL LS m (rlL z a) k = rlL z a := if_pos e
                        rw [eU, e]
                        exact (kok gw).2.mv (hzn gw).2.1.2 (hk9 _ _ (by omega)) (hk9 _ _ (by omega)) (fun j b1 b2 => ⟨hk9 _ _ (by omega), hk9 _ _ (by omega)⟩)
                      · have eU : updL LS m (rlL z a) k = LS k := if_neg e
                        rw [eU]
                        exact hLold s9 hold9 hold9b k (by omega) (hLS k (by omega)).2.1.2
                    · exact Or.inl ⟨gw, by rw [hk9 _ _ (by omega)]; exact k28⟩
                  · have hz : z (nA z a) = 61 := y1.mp (by omega)
                    have hm1 : m + 1 < 12 := by omega
                    refine wp_bnd _ (r_back hfu hm1 h259 (by rw [hk9 _ _ (by omega)]; exact kc) hcc) ?_
                    intro _ s10 ⟨b1, b2, b3, b4, b5, b6⟩
                    refine wp_some ⟨?_, hfr9.trans (fun k j => by have := b6 k j; omega)⟩
                    by_cases gw : rlW z a m room = -1
                    · have hok := hzn gw
                      obtain ⟨hk1, hk2, hk3, hk4, hk5⟩ := kok gw
                      have ecc : cc = (rlL z a).2.1 := by omega
                      refine Or.inr ⟨gw, ?_, ?_, ?_⟩
                      · rw [show s10 328 28 = s9 328 28 by have := b6 328 28; omega, hk9 _ _ (by omega), k28, gw]
                      · rw [show s10 328 27 = s9 328 27 by have := b6 328 27; omega, hk9 _ _ (by omega)]; exact hk1
                      · have eM : adM z a m = m + 2 := if_pos hz
                        have eL : adL z a LS m = updL (updL LS m (rlL z a)) (m + 1) (revL (rlL z a)) := if_pos hz
                        rw [eM, eL]
                        refine ⟨b1, by omega, fun k hkk => ?_⟩
                        by_cases e1 : k = m + 1
                        · have eU : updL (updL LS m (rlL z a)) (m + 1) (revL (rlL z a)) k = revL (rlL z a) := if_pos e1
                          rw [eU, e1]
                          refine ⟨?_, ?_, fun p hp => ?_, fun p hp => ?_⟩
                          · rw [b2, hk9 _ _ (by omega)]; exact hk2
                          · rw [b3, ecc]; rfl
                          · have hp : p < (rlL z a).2.1 := hp
                            show _ = (rlL z a).2.2.1 ((rlL z a).2.1 - 1 - p)
                            rw [b4 p (by omega), hk9 _ _ (by omega), ecc]; exact hk4 _ (by omega)
                          · have hp : p + 1 < (rlL z a).2.1 := hp
                            show _ = (rlL z a).2.2.2 ((rlL z a).2.1 - 2 - p)
                            rw [b5 p (by omega), hk9 _ _ (by omega), ecc]; exact hk5 _ (by omega)
                        · have eU : updL (updL LS m (rlL z a)) (m + 1) (revL (rlL z a)) k = updL LS m (rlL z a) k := if_neg e1
                          rw [eU]
                          by_cases e : k = m
                          · have eU2 : updL LS m (rlL z a) k = rlL z a := if_pos e
                            rw [eU2, e]
                            refine (kok gw).2.mv hok.2.1.2 ?_ ?_ (fun j c1 c2 => ⟨?_, ?_⟩)
                            · rw [← hk9 342 m (by omega)]; have := b6 342 m; omega
                            · rw [← hk9 343 m (by omega)]; have := b6 343 m; omega
                            · rw [← hk9 344 j (by omega)]; have := b6 344 j; omega
                            · rw [← hk9 345 j (by omega)]; have := b6 345 j; omega
                          · have eU2 : updL LS m (rlL z a) k = LS k := if_neg e
                            rw [eU2]
                            exact hLold s10 (fun q jj c1 c2 => by have := hold9 q jj c1 c2; have := b6 q jj; omega) (fun q jj c1 c2 => by have := hold9b q jj c1 c2; have := b6 q jj; omega) k (by omega) (hLS k (by omega)).2.1.2
                    · exact Or.inl ⟨gw, by rw [show s10 328 28 = s9 328 28 by have := b6 328 28; omega, hk9 _ _ (by omega)]; exact k28⟩
                refine r_wayL (σ := s3) (f := nV z a) h hfu hm fu 6 (w1S z (nA z a + 1)) s8 (by omega) hw1 (by show nA z a + 1 + 1 ≤ N; omega) rfl hT8 g8' h258 hL8 hfrM ?_ ?_ ?_
                · intro s' e1 e2 e3
                  rw [← ewy, ← er] at e1 e2
                  exact wp_some ⟨Or.inl ⟨e1, e2⟩, hf3.trans e3.frr⟩
                · intro s' e1 e2 e3 e4 e5
                  rw [← ewy, ← er] at e1 e2
                  exact hK210 s' e3 e4 e5 e2 (fun q => absurd q e1)
                · intro s' e1 e2 e3 e4 e5 e6
                  rw [← ewy] at e1 e3 e5
                  rw [← er] at e1
                  have hok := (rlL_ok h e1).1
                  exact hK210 s' e4 ⟨(rlL z a).2.1, hok.2.1.2, e5.2.1⟩ e6 (by rw [e2, e1]) (fun _ => ⟨e3, e5⟩)
            · refine wp_bnd _ (r_stopW (by rw [g7a]; exact g7b) (by rw [g7a]; omega)) ?_
              rintro _ s8 rfl
              exact hendW s7 g7b g7a (hf3.trans f7.frr)
          · intro jj hj
            refine iEq0 (fun q => ?_) (fun q => ?_)
            · have hz : z (nA z a) ≠ 61 := fun g => by have := y1.mpr g; omega
              refine wp_bnd _ (r_expect h hT3 (by omega) (by omega) h283) ?_
              intro _ s7 ⟨g7, f7⟩
              rcases g7 with ⟨g7, g7', _⟩ | ⟨g7, g7', g7''⟩
              · have er : rlW z a m room = (nA z a : Int) := by unfold rlW; rw [if_neg (by omega), if_neg (fun q => q g2), if_neg hno, if_pos ⟨hz, g7⟩]
                exact hj _ (Or.inr ⟨by rw [g7', er], by omega, f7⟩)
              · exact hj _ (Or.inl ⟨g7', g7'', Or.inr g7, f7⟩)
            · have hz : z (nA z a) = 61 := y1.mp (by omega)
              refine wp_stf (hj _ (Or.inl ⟨by rw [ms_j (by omega)]; exact h283, by rw [ms_eq, hT3.2.2]; omega, Or.inl hz, fun k j => ?_⟩))
              by_cases e : k = 328 ∧ j = 27
              · left; omega
              · rw [mset_eq, if_neg e]; exact Or.inr rfl
        · intro jj hj
          rw [h283, h25c]
          refine iNe (fun g => absurd rfl g) (fun _ => ?_)
          refine iEq0 (fun q => hj _ ⟨rfl, fun g => by have := y1.mpr g.1; omega⟩) (fun q => ?_)
          refine iNe (fun g => hj _ ⟨rfl, by omega⟩) (fun g => ?_)
          have hz : z (nA z a) = 61 := y1.mp (by omega)
          have er : rlW z a m room = (a : Int) := by unfold rlW; rw [if_neg (by omega), if_neg (fun q => q g2), if_pos ⟨hz, by omega⟩]
          rw [hT.2.2]
          refine wp_bnd _ (r_fault h283) ?_
          intro _ s8 ⟨w1, w2⟩
          exact wp_some ⟨Or.inl ⟨by omega, by rw [w1, er]⟩, hf3.trans (fun k j => by have := w2 k j; omega)⟩
      · intro jj hj
        exact iNe (fun g => hj _ _ ⟨Or.inl rfl, by omega, rfl⟩) (fun g => hj _ _ ⟨Or.inr rfl, by omega, rfl⟩)
  · have er : rlW z a m room = (a : Int) := by unfold rlW; rw [if_pos (by omega)]
    rw [hT.2.2]
    refine wp_bnd _ (r_fault hw) ?_
    intro _ s8 ⟨w1, w2⟩
    exact wp_some ⟨Or.inl ⟨by omega, by rw [w1, er]⟩, fun k j => by have := w2 k j; omega⟩
end RLINE
