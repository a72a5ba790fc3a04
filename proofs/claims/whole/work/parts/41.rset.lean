/-! ===== the reference: the set of a stop ===== -/
def lx (x y : Int × Nat) : Prop := x.1 < y.1 ∨ (x.1 = y.1 ∧ x.2 < y.2)
def SrtX : List (Int × Nat) → Prop
  | [] => True
  | x :: t => (∀ y ∈ t, lx x y) ∧ SrtX t
theorem insB_srtX {x : Int × Nat} {L : List (Int × Nat)} (h : SrtX L) (hx : ∀ y ∈ L, y.2 < x.2) : SrtX (insB x L) := by
  induction L with
  | nil => simp [insB, SrtX]
  | cons z t ih =>
    unfold insB
    split
    · rename_i hz
      refine ⟨fun y hy => ?_, h⟩
      rcases List.mem_cons.mp hy with e | e
      · subst e; exact Or.inl hz
      · have := h.1 y e
        unfold lx at this ⊢
        omega
    · rename_i hz
      refine ⟨fun y hy => ?_, ih h.2 (fun y hy => hx y (List.mem_cons_of_mem _ hy))⟩
      rcases insB_mem.mp hy with e | e
      · subst e
        have := hx z List.mem_cons_self
        unfold lx
        omega
      · exact h.1 y e
theorem bset_srtX (bd : Nat → Int) : ∀ n, SrtX (bset bd n) := by
  intro n
  induction n with
  | zero => trivial
  | succ n ih =>
    unfold bset; split
    · exact ih
    · exact insB_srtX ih (fun y hy => (bset_mem.mp hy).1)
theorem srtX_lt {L : List (Int × Nat)} (h : SrtX L) : ∀ {i j}, i < j → j < L.length → lx (gtL L i) (gtL L j) := by
  induction L with
  | nil => intro i j _ h; simp at h
  | cons x t ih =>
    intro i j hij hj
    simp only [List.length_cons] at hj
    cases j with
    | zero => omega
    | succ j =>
      rw [gtL_consS]
      cases i with
      | zero => rw [gtL_cons0]; exact h.1 _ (gtL_mem (by omega))
      | succ i => rw [gtL_consS]; exact ih h.2 (by omega) (by omega)
section RSET
variable {V σ : Mem} {c : Nat → Int} {l P p s fu : Nat}
theorem AbL.mv {σ' : Mem} (h : AbL V c σ l) (e1 : ∀ j, σ' 348 j = σ 348 j) (e2 : ∀ j, σ' 349 j = σ 349 j) : AbL V c σ' l := by
  intro p hp
  rw [e1, e2]
  exact h p hp
/-- which lines are taken: the first t of the list -/
def TkF (σ : Mem) (L : List (Int × Nat)) (t : Nat) : Prop := ∀ l, l < 12 → (σ 353 l = 0 ∨ σ 353 l = 1) ∧ (σ 353 l = 1 ↔ ∃ i, i < t ∧ (gtL L i).2 = l)
def nxt (L : List (Int × Nat)) (t : Nat) : Int := if t < L.length then ((gtL L t).2 : Int) else -1
theorem ofl_srtX {k : Nat} : SrtX (ofl V c s k) := by
  unfold ofl; split
  · trivial
  · exact bset_srtX _ _
theorem r_nextLine {t : Nat} (ok : OkN V) (hfu : 1000 < fu) (hR : Ref V σ) (h37 : -1 ≤ V 328 37 ∧ V 328 37 ≤ 95) (hb : ∀ s, -1 ≤ c s ∧ c s ≤ 20000000) (hA : ∀ l, l < nn V → AbL V c σ l) (hs : s < 10) (hg : s ≠ gl V) (hcl : V 339 s = 0) (ht : t ≤ (ofl V c s (nn V)).length) (hF : TkF σ (ofl V c s (nn V)) t) :
    wp (fX7_nextLine fu (s : Int) σ) (fun r σ' => r = nxt (ofl V c s (nn V)) t ∧ σ = σ') := by
  have hn := ok.n
  have hofl : ofl V c s (nn V) = bset (bdv V c s) (nn V) := by unfold ofl; rw [if_neg (by omega)]
  unfold fX7_nextLine
  refine for2 (f := fX7_nextLine_L4 fu (s : Int) _) (nn V) (fun i a s2 => σ = s2 ∧ ((a = -1 ∧ ∀ l, l < i → ¬ (0 ≤ bdv V c s l ∧ σ 353 l = 0)) ∨ (∃ m : Nat, m < i ∧ a = (m : Int) ∧ 0 ≤ bdv V c s m ∧ σ 353 m = 0 ∧ ∀ l, l < i → 0 ≤ bdv V c s l → σ 353 l = 0 → bdv V c s m < bdv V c s l ∨ (bdv V c s m = bdv V c s l ∧ m ≤ l)))) ?_ ?_ (i := 0) ⟨rfl, Or.inl ⟨rfl, fun l hl => by omega⟩⟩
  · rintro n i a s2 hi ⟨rfl, hJ⟩ hrec
    have hB := bdv_ge (c := c) ok s i
    have hB2 := bdv_le ok hi (M := 20000000) (by omega) (fun s => (hb s).2) s
    have hfl := (hF i (by omega)).1
    rw [fX7_nextLine_L4]
    rw [hR.j (by omega)]
    refine iLe (fun h => by omega) (fun _ => ?_)
    refine wp_bnd _ (r_boardable ok hfu hR h37 hb hA hi hs) ?_
    rintro r s' ⟨rfl, rfl⟩
    have hskip : ¬ (0 ≤ bdv V c s i ∧ σ 353 i = 0) → (a = -1 ∧ ∀ l, l < i + 1 → ¬ (0 ≤ bdv V c s l ∧ σ 353 l = 0)) ∨ (∃ m : Nat, m < i + 1 ∧ a = (m : Int) ∧ 0 ≤ bdv V c s m ∧ σ 353 m = 0 ∧ ∀ l, l < i + 1 → 0 ≤ bdv V c s l → σ 353 l = 0 → bdv V c s m < bdv V c s l ∨ (bdv V c s m = bdv V c s l ∧ m ≤ l)) := by
      intro hno
      rcases hJ with ⟨ea, hJ⟩ | ⟨m, h1, h2, h3, h4, h5⟩
      · refine Or.inl ⟨ea, fun l hl => ?_⟩
        by_cases e : l = i
        · rw [e]; exact hno
        · exact hJ l (by omega)
      · refine Or.inr ⟨m, by omega, h2, h3, h4, fun l hl g1 g2 => ?_⟩
        by_cases e : l = i
        · subst e; exact absurd ⟨g1, g2⟩ hno
        · exact h5 l (by omega) g1 g2
    refine wp_jn ?_
    refine jLt (fun h => ?_) (fun h => ?_)
    · exact hrec _ _ ⟨rfl, hskip (by omega)⟩
    · refine rI i rfl (by omega) ?_
      refine iNe0 (fun h2 => ?_) (fun h2 => ?_) (by clear hJ hskip; omega)
      · exact hrec _ _ ⟨rfl, hskip (by omega)⟩
      · refine wp_jn ?_
        refine iEq (fun h3 => ?_) (fun h3 => ?_) (by rcases hJ with ⟨ea, _⟩ | ⟨m, h1, h2, _⟩ <;> omega)
        · refine hrec _ _ ⟨rfl, Or.inr ⟨i, by omega, rfl, h, h2, fun l hl g1 g2 => ?_⟩⟩
          rcases hJ with ⟨ea, hJ⟩ | ⟨m, h1, h2, _⟩
          · by_cases e : l = i
            · subst e; exact Or.inr ⟨rfl, Nat.le_refl _⟩
            · exact absurd ⟨g1, g2⟩ (hJ l (by omega))
          · omega
        · rcases hJ with ⟨ea, hJ⟩ | ⟨m, h1, h4, h5, h6, h7⟩
          · exact absurd ea h3
          · subst h4
            have hBm := bdv_le ok (show m < nn V by omega) (M := 20000000) (by omega) (fun s => (hb s).2) s
            refine wp_bnd _ (r_boardable ok hfu hR h37 hb hA (show m < nn V by omega) hs) ?_
            rintro r s' ⟨rfl, rfl⟩
            refine jLt (fun g => ?_) (fun g => ?_)
            · refine hrec _ _ ⟨rfl, Or.inr ⟨i, by omega, rfl, h, h2, fun l hl g1 g2 => ?_⟩⟩
              by_cases e : l = i
              · subst e; exact Or.inr ⟨rfl, Nat.le_refl _⟩
              · have := h7 l (by omega) g1 g2; left; omega
            · refine hrec _ _ ⟨rfl, Or.inr ⟨m, by omega, rfl, h5, h6, fun l hl g1 g2 => ?_⟩⟩
              by_cases e : l = i
              · subst e; omega
              · exact h7 l (by omega) g1 g2
  · rintro n a s2 ⟨rfl, hJ⟩
    rw [fX7_nextLine_L4]
    rw [hR.j (by omega)]
    refine iLe (fun _ => ?_) (fun h => by omega)
    refine wp_some ⟨?_, rfl⟩
    unfold nxt
    rcases hJ with ⟨ea, hJ⟩ | ⟨m, h1, h4, h5, h6, h7⟩
    · rw [if_neg, ea]
      intro hlt
      have hmem := gtL_mem hlt
      have hm := ofl_mem hmem
      refine hJ _ hm.1 ⟨by omega, ?_⟩
      have hfl := hF (gtL (ofl V c s (nn V)) t).2 (by omega)
      rcases hfl.1 with e | e
      · exact e
      · obtain ⟨i, hi, he⟩ := hfl.2.mp e
        have := srtX_lt ofl_srtX hi hlt
        have hm2 := ofl_mem (gtL_mem (L := ofl V c s (nn V)) (i := i) (by omega))
        unfold lx at this
        rw [hm.2.1, hm2.2.1, he] at this
        omega
    · -- the line m is in the list, behind the first t
      have hmem : (bdv V c s m, m) ∈ ofl V c s (nn V) := by rw [hofl]; exact bset_mem.mpr ⟨h1, rfl, h5⟩
      obtain ⟨i, hi, he⟩ := mem_gtL hmem
      have hti : t ≤ i := by
        rcases Nat.lt_or_ge i t with a | a
        · have := (hF m (by omega)).2.mpr ⟨i, a, by rw [he]⟩
          omega
        · exact a
      have hlt : t < (ofl V c s (nn V)).length := by omega
      rw [if_pos hlt]
      have hm := ofl_mem (gtL_mem hlt)
      have hfree : σ 353 (gtL (ofl V c s (nn V)) t).2 = 0 := by
        have hfl := hF (gtL (ofl V c s (nn V)) t).2 (by omega)
        rcases hfl.1 with e | e
        · exact e
        · obtain ⟨i, hi, he⟩ := hfl.2.mp e
          have := srtX_lt ofl_srtX hi hlt
          have hm2 := ofl_mem (gtL_mem (L := ofl V c s (nn V)) (i := i) (by omega))
          unfold lx at this
          rw [hm.2.1, hm2.2.1, he] at this
          omega
      have h8 := h7 _ hm.1 (by omega) hfree
      by_cases e : t = i
      · rw [e, he, h4]
      · have := srtX_lt (ofl_srtX (V := V) (c := c) (s := s) (k := nn V)) (show t < i by omega) hi
        rw [he] at this
        unfold lx at this
        rw [hm.2.1] at this
        simp only [] at this
        omega
theorem r_set_L {Q : Int → Mem → Prop} {k : Int → Int → Mem → PR} (ok : OkN V) (hfu : 1000 < fu) (hR : Ref V σ) (h37 : -1 ≤ V 328 37 ∧ V 328 37 ≤ 95) (hb : ∀ s, -1 ≤ c s ∧ c s ≤ 20000000) (hA : ∀ l, l < nn V → AbL V c σ l) (hs : s < 10) (hg : s ≠ gl V) (hcl : V 339 s = 0)
    {L : List (Int × Nat)} (hL : L = ofl V c s (nn V)) :
    ∀ (fuel t : Nat) (N F : Int) (s' : Mem), t ≤ L.length → L.length - t < fuel → TkF s' L t → s' 352 s = (t : Int) → (∀ i, i < t → s' 351 (12 * s + i) = ((gtL L i).2 : Int)) → (∀ k j, k = 353 ∨ (k = 352 ∧ j = s) ∨ (k = 351 ∧ 12 * s ≤ j ∧ j < 12 * s + 12) ∨ s' k j = σ k j) → (t : Int) ≤ F → F ≤ 60 * (t : Int) → 0 ≤ N → N ≤ 6000 + 1800000000 * (t : Int) →
    (∀ s2 t2, t2 = (gre (frv V) N F (L.drop t)).1.length → s2 352 s = ((t + t2 : Nat) : Int) → (∀ i, i < t + t2 → s2 351 (12 * s + i) = ((gtL L i).2 : Int)) → (∀ k j, k = 353 ∨ (k = 352 ∧ j = s) ∨ (k = 351 ∧ 12 * s ≤ j ∧ j < 12 * s + 12) ∨ s2 k j = σ k j) → ((t + t2 : Nat) : Int) ≤ (gre (frv V) N F (L.drop t)).2.2 → (gre (frv V) N F (L.drop t)).2.2 ≤ 720 → 0 ≤ (gre (frv V) N F (L.drop t)).2.1 → (gre (frv V) N F (L.drop t)).2.1 ≤ 30000000000 → wp (k (gre (frv V) N F (L.drop t)).2.1 (gre (frv V) N F (L.drop t)).2.2 s2) Q) →
    wp (fX7_laysSet_L51 fu (s : Int) k fuel N F (nxt L t) s') Q := by
  have hn := ok.n
  have hlen : L.length ≤ 12 := by rw [hL]; have := ofl_len (V := V) (c := c) (s := s) (k := nn V); omega
  have hLm : ∀ i, i < L.length → (gtL L i).2 < nn V ∧ (gtL L i).1 = bdv V c s (gtL L i).2 ∧ 0 ≤ (gtL L i).1 ∧ (gtL L i).1 ≤ 30000000 := by
    intro i hi
    have h1 := ofl_mem (V := V) (c := c) (s := s) (k := nn V) (by rw [← hL]; exact gtL_mem hi)
    have h2 := bdv_le ok h1.1 (M := 20000000) (by omega) (fun s => (hb s).2) s
    exact ⟨h1.1, h1.2.1, h1.2.2, by omega⟩
  intro fuel
  induction fuel with
  | zero => intro t N F s' _ h; omega
  | succ n ih =>
    intro t N F s' ht hf hF h352 h351 hfr hF1 hF2 hN1 hN2 hk
    have hR' : Ref V s' := ⟨fun j hj => by rw [← hR.1 j hj]; have := hfr 328 j; omega, fun k j h1 h2 => by rw [← hR.2 k j h1 h2]; have := hfr k j; omega⟩
    have hA' : ∀ l, l < nn V → AbL V c s' l := fun l hl => (hA l hl).mv (fun j => by have := hfr 348 j; omega) (fun j => by have := hfr 349 j; omega)
    rw [fX7_laysSet_L51]
    by_cases htL : t < L.length
    · have hx := hLm t htL
      have hnx : nxt L t = ((gtL L t).2 : Int) := by unfold nxt; rw [if_pos htL]
      have hfx := ok.fr (gtL L t).2
      have hfrx : V 329 (gtL L t).2 = frv V (gtL L t).2 := by unfold frv; rw [if_pos hx.1]
      have hprod : 0 ≤ frv V (gtL L t).2 * (gtL L t).1 ∧ frv V (gtL L t).2 * (gtL L t).1 ≤ 1800000000 := by
        constructor
        · exact Int.mul_nonneg (by omega) hx.2.2.1
        · have a1 : frv V (gtL L t).2 * (gtL L t).1 ≤ 60 * (gtL L t).1 := Int.mul_le_mul_of_nonneg_right hfx.2 hx.2.2.1
          omega
      rw [hnx]
      refine iEq (fun h => by omega) (fun _ => ?_)
      refine wp_jm (fun s2 => s' = s2 ∧ (F = 0 ∨ (gtL L t).1 < N / F)) ?_ ?_
      · rintro s2 ⟨rfl, hc⟩
        refine rI (gtL L t).2 rfl (by omega) ?_
        rw [hR'.2 329 _ (by omega) (by omega), hfrx]
        refine wp_bnd _ (r_boardable ok hfu hR' h37 hb hA' hx.1 hs) ?_
        rintro r s2 ⟨rfl, rfl⟩
        refine wp_lt ?_
        refine rI (gtL L t).2 rfl (by omega) ?_
        rw [hR'.2 329 _ (by omega) (by omega), hfrx]
        refine wp_lt ?_
        refine wI (gtL L t).2 rfl (by omega) ?_
        rw [n1_1]
        refine rI s rfl hs ?_
        rw [ms_k (by omega), h352]
        refine wI (12 * s + t) (by omega) (by omega) ?_
        refine rI s rfl hs ?_
        rw [ms_k (by omega), ms_k (by omega), h352]
        refine wI s rfl hs ?_
        rw [w32_sm (by omega) (by omega), ← hx.2.1]
        have hE : gre (frv V) N F (L.drop t) = (gtL L t :: (gre (frv V) (N + frv V (gtL L t).2 * (gtL L t).1) (F + frv V (gtL L t).2) (L.drop (t + 1))).1, (gre (frv V) (N + frv V (gtL L t).2 * (gtL L t).1) (F + frv V (gtL L t).2) (L.drop (t + 1))).2) := by
          rw [drop_at htL]
          conv => lhs; unfold gre
          rw [if_pos hc]
        have hfr3 : ∀ k j, k = 353 ∨ (k = 352 ∧ j = s) ∨ (k = 351 ∧ 12 * s ≤ j ∧ j < 12 * s + 12) ∨ (mset (mset (mset s' 353 (gtL L t).2 1) 351 (12 * s + t) ((gtL L t).2 : Int)) 352 s ((t : Int) + 1)) k j = σ k j := by
          intro k j
          by_cases e : k = 353 ∨ (k = 352 ∧ j = s) ∨ (k = 351 ∧ 12 * s ≤ j ∧ j < 12 * s + 12)
          · omega
          · rw [mset_eq, if_neg (by omega), mset_eq, if_neg (by omega), mset_eq, if_neg (by omega)]; exact hfr k j
        have hF3 : TkF (mset (mset (mset s' 353 (gtL L t).2 1) 351 (12 * s + t) ((gtL L t).2 : Int)) 352 s ((t : Int) + 1)) L (t + 1) := by
          intro l hl
          rw [ms_k (by omega), ms_k (by omega)]
          by_cases e : l = (gtL L t).2
          · rw [e, ms_eq]
            exact ⟨Or.inr rfl, fun _ => ⟨t, by omega, rfl⟩, fun _ => rfl⟩
          · rw [ms_j e]
            have := hF l hl
            refine ⟨this.1, this.2.trans ⟨fun ⟨i, h1, h2⟩ => ⟨i, by omega, h2⟩, fun ⟨i, h1, h2⟩ => ⟨i, ?_, h2⟩⟩⟩
            rcases Nat.lt_or_ge i t with a | a
            · exact a
            · exact absurd (by rw [← h2, show i = t by omega]) e
        have hR3 : Ref V (mset (mset (mset s' 353 (gtL L t).2 1) 351 (12 * s + t) ((gtL L t).2 : Int)) 352 s ((t : Int) + 1)) := ⟨fun j hj => by rw [← hR.1 j hj]; have := hfr3 328 j; omega, fun k j h1 h2 => by rw [← hR.2 k j h1 h2]; have := hfr3 k j; omega⟩
        have hA3 : ∀ l, l < nn V → AbL V c (mset (mset (mset s' 353 (gtL L t).2 1) 351 (12 * s + t) ((gtL L t).2 : Int)) 352 s ((t : Int) + 1)) l := fun l hl => (hA l hl).mv (fun j => by have := hfr3 348 j; omega) (fun j => by have := hfr3 349 j; omega)
        have hnl := r_nextLine (t := t + 1) ok hfu hR3 h37 hb hA3 hs hg hcl (by rw [← hL]; omega) (by rw [← hL]; exact hF3)
        rw [← hL] at hnl
        refine wp_bnd _ hnl ?_
        rintro r s2 ⟨rfl, rfl⟩
        refine ih (t + 1) (N + frv V (gtL L t).2 * (gtL L t).1) (F + frv V (gtL L t).2) _ (by omega) (by omega) hF3 (by rw [ms_eq]; omega) ?_ hfr3 (by omega) (by omega) (by omega) (by omega) ?_
        · intro i hi
          rw [ms_k (by omega)]
          by_cases e : i = t
          · rw [e, ms_eq]
          · rw [ms_j (by omega), ms_k (by omega)]; exact h351 i (by omega)
        · intro s2 t2 g2 g1 g3 g4 g5 g6 g7 g8
          rw [hE] at hk
          simp only [List.length_cons] at hk
          exact hk s2 (t2 + 1) (by rw [g2]) (by rw [g1]; omega) (fun i hi => g3 i (by omega)) g4 (by omega) g6 g7 g8
      · intro j hj
        refine iEq0 (fun h0 => ?_) (fun h0 => ?_)
        · exact hj _ ⟨rfl, Or.inl h0⟩
        · refine wp_bnd _ (r_boardable ok hfu hR' h37 hb hA' hx.1 hs) ?_
          rintro r s2 ⟨rfl, rfl⟩
          rw [w32_sm (x := F) (by omega) (by omega)]
          refine wp_dv64 ⟨by omega, by omega⟩ h0 ?_
          have hq1 : 0 ≤ N / F := Int.ediv_nonneg hN1 (by omega)
          have hq2 : N / F ≤ N := Int.ediv_le_self _ hN1
          rw [div64_eq ⟨by omega, by omega⟩ ⟨by omega, by omega⟩ (by omega), Int.tdiv_eq_ediv_of_nonneg hN1, ← hx.2.1]
          refine jLe (fun h => ?_) (fun h => ?_)
          · have hE : gre (frv V) N F (L.drop t) = ([], N, F) := by
              rw [drop_at htL]; unfold gre; rw [if_neg (by omega)]
            rw [hE] at hk
            exact hk s' 0 rfl (by rw [Nat.add_zero]; exact h352) (by rw [Nat.add_zero]; exact h351) hfr (by simp only []; omega) (by simp only []; omega) hN1 (by simp only []; omega)
          · exact hj _ ⟨rfl, Or.inr h⟩
    · have hnx : nxt L t = -1 := by unfold nxt; rw [if_neg htL]
      rw [hnx]
      refine iEq (fun _ => ?_) (fun h => absurd rfl h)
      have e : L.drop t = [] := List.drop_eq_nil_of_le (by omega)
      rw [e] at hk
      simp only [gre] at hk
      exact hk s' 0 rfl (by rw [Nat.add_zero]; exact h352) (by rw [Nat.add_zero]; exact h351) hfr (by omega) (by omega) hN1 (by omega)
def SetS (V : Mem) (c : Nat → Int) (σ : Mem) (s : Nat) : Prop := σ 352 s = ((tk V c s).length : Int) ∧ σ 350 s = fs V c s ∧ ∀ i, i < (tk V c s).length → σ 351 (12 * s + i) = ((gtL (tk V c s) i).2 : Int)
theorem r_laysSet (ok : OkN V) (hfu : 1000 < fu) (hR : Ref V σ) (h37 : -1 ≤ V 328 37 ∧ V 328 37 ≤ 95) (hb : ∀ s, -1 ≤ c s ∧ c s ≤ 20000000) (hA : ∀ l, l < nn V → AbL V c σ l) (hs : s < 10) (hg : s ≠ gl V) (hcl : V 339 s = 0) :
    wp (fX7_laysSet fu (s : Int) σ) (fun _ σ' => SetS V c σ' s ∧ σ' 346 s = Tv V c s ∧ ∀ k j, k = 353 ∨ (k = 352 ∧ j = s) ∨ (k = 350 ∧ j = s) ∨ (k = 346 ∧ j = s) ∨ (k = 351 ∧ 12 * s ≤ j ∧ j < 12 * s + 12) ∨ σ' k j = σ k j) := by
  have hn := ok.n
  have hW := ok.W
  have hw := ok.2.1
  unfold fX7_laysSet
  refine wp_lt ?_
  rw [hR.j (by omega), w32_sm (x := V 328 10) (by omega) (by omega)]
  refine wI s rfl hs ?_
  refine for1 (f := fX7_laysSet_L23 fu _ _ _) 12 (fun i s2 => (∀ l, l < i → s2 353 l = 0) ∧ s2 352 s = 0 ∧ ∀ k j, k = 353 ∨ (k = 352 ∧ j = s) ∨ s2 k j = σ k j) ?_ ?_ (i := 0) ⟨fun l hl => by omega, ms_eq _ _ _ _, fun k j => ?_⟩
  · intro n i s2 hi ⟨j1, j2, j3⟩ hrec
    rw [fX7_laysSet_L23]
    refine iLe (fun h => by omega) (fun _ => ?_)
    refine wI i rfl hi ?_
    rw [n1_0]
    refine hrec _ ⟨fun l hl => ?_, by rw [ms_k (by omega)]; exact j2, fun k j => ?_⟩
    · by_cases e : l = i
      · rw [e, ms_eq]
      · rw [ms_j e]; exact j1 l (by omega)
    · by_cases e : k = 353
      · exact Or.inl e
      · rw [ms_k e]; exact j3 k j
  · intro n s2 ⟨j1, j2, j3⟩
    rw [fX7_laysSet_L23]
    refine iLe (fun _ => ?_) (fun h => by omega)
    have hR2 : Ref V s2 := ⟨fun j hj => by rw [← hR.1 j hj]; have := j3 328 j; omega, fun k j h1 h2 => by rw [← hR.2 k j h1 h2]; have := j3 k j; omega⟩
    have hA2 : ∀ l, l < nn V → AbL V c s2 l := fun l hl => (hA l hl).mv (fun j => by have := j3 348 j; omega) (fun j => by have := j3 349 j; omega)
    have hF0 : TkF s2 (ofl V c s (nn V)) 0 := fun l hl => ⟨Or.inl (j1 l hl), fun e => by have := j1 l hl; omega, fun ⟨i, hi, _⟩ => by omega⟩
    refine wp_bnd _ (r_nextLine (t := 0) ok hfu hR2 h37 hb hA2 hs hg hcl (by omega) hF0) ?_
    rintro r s3 ⟨rfl, rfl⟩
    refine r_set_L ok hfu hR2 h37 hb hA2 hs hg hcl rfl fu 0 (60 * V 328 10) 0 s2 (by omega) (by have := ofl_len (V := V) (c := c) (s := s) (k := nn V); omega) hF0 j2 (fun i hi => by omega) (fun k j => Or.inr (Or.inr (Or.inr rfl))) (by omega) (by omega) (by omega) (by omega) ?_
    rw [List.drop_zero]
    intro s3 t2 g1 g2 g3 g4 g5 g6 g7 g8
    rw [Nat.zero_add] at g2 g3 g5
    refine wI s rfl hs ?_
    have hfsE : (gre (frv V) (60 * V 328 10) 0 (ofl V c s (nn V))).2.2 = fs V c s := rfl
    have hgrE : (gre (frv V) (60 * V 328 10) 0 (ofl V c s (nn V))).2.1 = (grv V c s).2.1 := rfl
    have hlE : (gre (frv V) (60 * V 328 10) 0 (ofl V c s (nn V))).1.length = (tk V c s).length := rfl
    rw [hfsE] at g5 g6 ⊢
    rw [hgrE] at g7 g8 ⊢
    rw [hlE] at g1
    refine wp_ji (fun x s' => x = Tv V c s ∧ mset s3 350 s (fs V c s) = s') ?_ ?_
    · rintro x s' ⟨rfl, rfl⟩
      refine wI s rfl hs ?_
      refine wp_some ⟨⟨?_, ?_, fun i hi => ?_⟩, ms_eq _ _ _ _, fun k j => ?_⟩
      · rw [ms_k (by omega), ms_k (by omega), g2, g1]
      · rw [ms_k (by omega), ms_eq]
      · rw [ms_k (by omega), ms_k (by omega), tk_at hi]; exact g3 i (by omega)
      · by_cases e : k = 353 ∨ (k = 352 ∧ j = s) ∨ (k = 350 ∧ j = s) ∨ (k = 346 ∧ j = s) ∨ (k = 351 ∧ 12 * s ≤ j ∧ j < 12 * s + 12)
        · omega
        · rw [mset_eq, if_neg (by omega), mset_eq, if_neg (by omega)]
          have a := g4 k j
          have b := j3 k j
          omega
    · intro j hj
      have hT := Tv_grv (c := c) hs hg hcl
      refine iNe0 (fun h => ?_) (fun h => ?_)
      · rw [w32_sm (x := fs V c s) (by omega) (by omega)]
        refine wp_dv64 ⟨by omega, by omega⟩ h ?_
        rw [div64_eq ⟨by omega, by omega⟩ ⟨by omega, by omega⟩ (by omega), Int.tdiv_eq_ediv_of_nonneg g7]
        exact hj _ _ ⟨by rw [hT, if_neg h], rfl⟩
      · exact hj _ _ ⟨by rw [hT, if_pos h], rfl⟩
  · by_cases e : k = 352 ∧ j = s
    · exact Or.inr (Or.inl e)
    · rw [mset_eq, if_neg e]; exact Or.inr (Or.inr rfl)
end RSET
