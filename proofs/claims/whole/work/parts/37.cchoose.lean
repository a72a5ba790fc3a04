/-! ===== the class: the set of a stop ===== -/
theorem gre_take (fr : Nat → Int) : ∀ (L : List (Int × Nat)) (N F : Int), (gre fr N F L).1 = L.take (gre fr N F L).1.length ∧ (gre fr N F L).1.length ≤ L.length := by
  intro L
  induction L with
  | nil => intro N F; simp [gre]
  | cons x t ih =>
    intro N F
    unfold gre
    split
    · have := ih (N + fr x.2 * x.1) (F + fr x.2)
      simp only [List.length_cons, List.take_succ_cons]
      exact ⟨by rw [← this.1], by omega⟩
    · simp
section CCHOOSE
variable {V σ : Mem} {c : Nat → Int} {l P p s fu : Nat}
/-- the offers of a stop, of the lines below k -/
def ofl (V : Mem) (c : Nat → Int) (s k : Nat) : List (Int × Nat) := if s = gl V ∨ V 339 s ≠ 0 then [] else bset (bdv V c s) k
def grv (V : Mem) (c : Nat → Int) (s : Nat) : List (Int × Nat) × Int × Int := gre (frv V) (60 * V 328 10) 0 (ofl V c s (nn V))
def tk (V : Mem) (c : Nat → Int) (s : Nat) : List (Int × Nat) := (grv V c s).1
def fs (V : Mem) (c : Nat → Int) (s : Nat) : Int := (grv V c s).2.2
theorem ofl_mem {k : Nat} {x : Int × Nat} (h : x ∈ ofl V c s k) : x.2 < k ∧ x.1 = bdv V c s x.2 ∧ 0 ≤ x.1 := by
  unfold ofl at h; split at h
  · simp at h
  · exact bset_mem.mp h
theorem ofl_srt {k : Nat} : Srt (ofl V c s k) := by
  unfold ofl; split
  · trivial
  · exact bset_srt _ _
theorem ofl_len {k : Nat} : (ofl V c s k).length ≤ k := by
  unfold ofl; split
  · simp
  · exact bset_len _ _
theorem tk_take : tk V c s = (ofl V c s (nn V)).take (tk V c s).length ∧ (tk V c s).length ≤ (ofl V c s (nn V)).length := gre_take _ _ _ _
theorem tk_at {i : Nat} (h : i < (tk V c s).length) : gtL (tk V c s) i = gtL (ofl V c s (nn V)) i := by
  have h1 := (tk_take (V := V) (c := c) (s := s)).1
  unfold gtL
  conv => lhs; rw [h1]
  rw [List.getElem?_take, if_pos h]
theorem tk_len (ok : OkN V) : (tk V c s).length ≤ 12 := by
  have h1 := (tk_take (V := V) (c := c) (s := s)).2
  have h2 := ofl_len (V := V) (c := c) (s := s) (k := nn V)
  have h3 := ok.n.2
  omega
theorem tk_mem {x : Int × Nat} (h : x ∈ tk V c s) : x ∈ ofl V c s (nn V) := by
  rw [tk_take.1] at h; exact List.mem_of_mem_take h
theorem Tv_grv (hs : s < 10) (hg : s ≠ gl V) (hcl : V 339 s = 0) : Tv V c s = if fs V c s = 0 then -1 else (grv V c s).2.1 / fs V c s := by
  unfold Tv
  rw [if_neg (by omega)]
  unfold cst fs grv ofl
  rw [if_neg (show ¬ (s = gl V ∨ V 339 s ≠ 0) by omega)]
theorem c_choose_L {L : List (Int × Nat)} {Q : Int → Mem → Prop} {k : Int → Mem → PR} (ok : OkN V) (hs : s < 10) (hO : OffS V σ s L) (hL : L.length ≤ 12) (hm : ∀ x ∈ L, x.2 < nn V ∧ 0 ≤ x.1 ∧ x.1 ≤ 30000000) (hcl : Cls V σ) :
    ∀ (fuel t : Nat) (N F : Int) (s' : Mem), t ≤ L.length → L.length - t < fuel → s' (283 + 4 * s) 4 = (t : Int) → s' (283 + 4 * s) 5 = F → (∀ k j, (k = 283 + 4 * s ∧ (j = 4 ∨ j = 5)) ∨ s' k j = σ k j) → (t : Int) ≤ F → F ≤ 60 * (t : Int) → 0 ≤ N → N ≤ 6000 + 1800000000 * (t : Int) →
    (∀ s2 t2, s2 (283 + 4 * s) 4 = ((t + t2 : Nat) : Int) → t2 = (gre (frv V) N F (L.drop t)).1.length → s2 (283 + 4 * s) 5 = (gre (frv V) N F (L.drop t)).2.2 → (∀ k j, (k = 283 + 4 * s ∧ (j = 4 ∨ j = 5)) ∨ s2 k j = σ k j) → ((t + t2 : Nat) : Int) ≤ (gre (frv V) N F (L.drop t)).2.2 → (gre (frv V) N F (L.drop t)).2.2 ≤ 720 → 0 ≤ (gre (frv V) N F (L.drop t)).2.1 → (gre (frv V) N F (L.drop t)).2.1 ≤ 30000000000 → wp (k (gre (frv V) N F (L.drop t)).2.1 s2) Q) →
    wp (fX4_choose_L3 fu (283 + 4 * s) (pl (σ 136 0)) k fuel N s') Q := by
  intro fuel
  induction fuel with
  | zero => intro t N F s' _ h; omega
  | succ n ih =>
    intro t N F s' ht hf h4 h5 hfr hF1 hF2 hN1 hN2 hk
    have h3 : s' (283 + 4 * s) 3 = (L.length : Int) := by have := hO.1; have := hfr (283 + 4 * s) 3; omega
    rw [fX4_choose_L3]
    refine iLe (fun h => ?_) (fun h => ?_)
    · have e : L.drop t = [] := List.drop_eq_nil_of_le (by omega)
      rw [e] at hk
      simp only [gre] at hk
      exact hk s' 0 (by rw [Nat.add_zero]; exact h4) rfl h5 hfr (by omega) (by omega) hN1 (by omega)
    · have htL : t < L.length := by omega
      have hx := hm _ (gtL_mem htL)
      have hOt := hO.2 t htL
      have hfx := ok.fr (gtL L t).2
      have hPl := hcl.isL ok hx.1
      have hfrx : σ (PL σ (gtL L t).2) 0 = frv V (gtL L t).2 := by rw [(hcl.ln hx.1).1]; unfold frv; rw [if_pos hx.1]
      have hn := ok.n
      have hprod : 0 ≤ frv V (gtL L t).2 * (gtL L t).1 ∧ frv V (gtL L t).2 * (gtL L t).1 ≤ 1800000000 := by
        constructor
        · exact Int.mul_nonneg (by omega) hx.2.1
        · have a1 : frv V (gtL L t).2 * (gtL L t).1 ≤ 60 * (gtL L t).1 := Int.mul_le_mul_of_nonneg_right hfx.2 hx.2.1
          omega
      -- going on
      have hgo : ¬ (¬ (F = 0 ∨ (gtL L t).1 < N / F)) → wp (rdI s' (283 + 4 * s + 1) 12 (s' (283 + 4 * s) 4) (fun x3 => rdR s' (pl (σ 136 0)) 12 x3 (fun p3 => lt (s' p3 0) (fun x4 => rdI s' (283 + 4 * s + 3) 12 (s' (283 + 4 * s) 4) (fun x5 => lt (N + ((w32 x4) * (w32 x5))) (fun x6 => stf s' (283 + 4 * s) 5 ((s' (283 + 4 * s) 5) + x4) (fun s3 => stf s3 (283 + 4 * s) 4 ((s3 (283 + 4 * s) 4) + 1) (fun s4 => fX4_choose_L3 fu (283 + 4 * s) (pl (σ 136 0)) k n x6 s4)))))))) Q := by
        intro hc
        have hc : F = 0 ∨ (gtL L t).1 < N / F := Classical.not_not.mp hc
        refine rI t h4 (by omega) ?_
        rw [show s' (283 + 4 * s + 1) t = ((gtL L t).2 : Int) by rw [← hOt.1]; have := hfr (283 + 4 * s + 1) t; omega]
        refine rR (gtL L t).2 rfl (by omega) ?_
        have hPe : pl (s' (pl (σ 136 0)) (gtL L t).2) = PL σ (gtL L t).2 := by
          unfold PL
          have h1 := hcl.1.1
          have := hfr (pl (σ 136 0)) (gtL L t).2
          rw [this.resolve_left (by omega)]
        rw [hPe]
        refine wp_lt ?_
        rw [show s' (PL σ (gtL L t).2) 0 = frv V (gtL L t).2 by rw [← hfrx]; have := hfr (PL σ (gtL L t).2) 0; omega]
        refine rI t h4 (by omega) ?_
        rw [show s' (283 + 4 * s + 3) t = (gtL L t).1 by rw [← hOt.2.2]; have := hfr (283 + 4 * s + 3) t; omega]
        refine wp_lt ?_
        refine wp_stf (wp_stf ?_)
        rw [w32_sm (by omega) (by omega), w32_sm (by omega) (by omega)]
        have hE : gre (frv V) N F (L.drop t) = (gtL L t :: (gre (frv V) (N + frv V (gtL L t).2 * (gtL L t).1) (F + frv V (gtL L t).2) (L.drop (t + 1))).1, (gre (frv V) (N + frv V (gtL L t).2 * (gtL L t).1) (F + frv V (gtL L t).2) (L.drop (t + 1))).2) := by
          rw [drop_at htL]
          conv => lhs; unfold gre
          rw [if_pos hc]
        refine ih (t + 1) (N + frv V (gtL L t).2 * (gtL L t).1) (F + frv V (gtL L t).2) _ (by omega) (by omega) ?_ ?_ ?_ (by omega) (by omega) (by omega) (by omega) ?_
        · rw [ms_eq, ms_j (by omega), h4]; omega
        · rw [ms_j (by omega), ms_eq, h5]
        · intro x j
          by_cases e : x = 283 + 4 * s ∧ (j = 4 ∨ j = 5)
          · exact Or.inl e
          · rw [mset_eq, if_neg (by omega), mset_eq, if_neg (by omega)]; exact hfr x j
        · intro s2 t2 g1 g2 g3 g4 g5 g6 g7 g8
          rw [hE] at hk
          simp only [List.length_cons] at hk
          exact hk s2 (t2 + 1) (by rw [g1]; omega) (by rw [g2]) g3 g4 (by omega) g6 g7 g8
      have hstop : ¬ (F = 0 ∨ (gtL L t).1 < N / F) → wp (k N s') Q := by
        intro hc
        have hE : gre (frv V) N F (L.drop t) = ([], N, F) := by
          rw [drop_at htL]; unfold gre; rw [if_neg hc]
        rw [hE] at hk
        exact hk s' 0 (by rw [Nat.add_zero]; exact h4) rfl h5 hfr (by simp only []; omega) (by simp only []; omega) hN1 (by simp only []; omega)
      refine wp_jn ?_
      refine iEq0 (fun h0 => ?_) (fun h0 => ?_)
      · exact hgo (fun hc => hc (Or.inl (by omega)))
      · refine rI t h4 (by omega) ?_
        rw [show s' (283 + 4 * s + 3) t = (gtL L t).1 by rw [← hOt.2.2]; have := hfr (283 + 4 * s + 3) t; omega]
        have hF0 : 1 ≤ F := by omega
        rw [h5, w32_sm (x := F) (by omega) (by omega), parts_pos fu s' ⟨by omega, by omega⟩ hN1 ⟨by omega, by omega⟩ hF0, bnd_eq]
        have hq1 : 0 ≤ N / F := Int.ediv_nonneg hN1 (by omega)
        have hq2 : N / F ≤ N := Int.ediv_le_self _ hN1
        rw [w32_sm (x := (gtL L t).1) (by omega) (by omega)]
        refine jLe (fun h => ?_) (fun h => ?_)
        · exact hstop (by omega)
        · exact hgo (fun hc => hc (Or.inr h))
theorem c_choose {L : List (Int × Nat)} (ok : OkN V) (hfu : 1000 < fu) (hs : s < 10) (hO : OffS V σ s L) (hL : L.length ≤ 12) (hm : ∀ x ∈ L, x.2 < nn V ∧ 0 ≤ x.1 ∧ x.1 ≤ 30000000) (hcl : Cls V σ) (h4 : σ (283 + 4 * s) 4 = 0) (h5 : σ (283 + 4 * s) 5 = 0) :
    wp (fX4_choose fu (283 + 4 * s) (60 * V 328 10) (pl (σ 136 0)) σ) (fun r σ' => r = (if (gre (frv V) (60 * V 328 10) 0 L).2.2 = 0 then -1 else (gre (frv V) (60 * V 328 10) 0 L).2.1 / (gre (frv V) (60 * V 328 10) 0 L).2.2) ∧ σ' (283 + 4 * s) 4 = ((gre (frv V) (60 * V 328 10) 0 L).1.length : Int) ∧ σ' (283 + 4 * s) 5 = (gre (frv V) (60 * V 328 10) 0 L).2.2 ∧ ∀ k j, (k = 283 + 4 * s ∧ (j = 4 ∨ j = 5)) ∨ σ' k j = σ k j) := by
  unfold fX4_choose
  have hW := ok.W
  refine c_choose_L ok hs hO hL hm hcl fu 0 (60 * V 328 10) 0 σ (by omega) (by omega) h4 h5 (fun k j => Or.inr rfl) (by omega) (by omega) (by omega) (by omega) ?_
  rw [List.drop_zero]
  intro s2 t2 g1 g2 g3 g4 g5 g6 g7 g8
  rw [Nat.zero_add] at g1 g5
  refine wp_jn ?_
  refine iNe0 (fun h => ?_) (fun h => ?_) ?_
  · rw [g3, w32_sm (by omega) (by omega), parts_pos fu s2 ⟨by omega, by omega⟩ g7 ⟨by omega, by omega⟩ (by omega), bnd_eq]
    exact wp_some ⟨by rw [if_neg (by omega)], by rw [g1, g2], g3, g4⟩
  · refine wp_some ⟨?_, by rw [g1, g2], g3, g4⟩
    rw [if_pos]
    -- nothing taken: no offers, the sum is nought
    have : t2 = 0 := by omega
    rw [this] at g2
    cases L with
    | nil => rfl
    | cons x t =>
      exfalso
      unfold gre at g2
      rw [if_pos (Or.inl rfl)] at g2
      simp at g2
  · have := (gre_take (frv V) L (60 * V 328 10) 0).2
    omega
end CCHOOSE
