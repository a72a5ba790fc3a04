/-! ===== after net and adds both hold the same again ===== -/
section NETINV
variable {V V' U σ σ' σ'' X W : Mem} {N a m room c fu k j p i t n n0 l P : Nat} {v x f u : Int} {LS : Nat → zLn} {cl : Nat → Int}
theorem LnV.ok {y : zLn} (h : LnV y σ l) (g : OkLn y) : OkL σ l := by
  obtain ⟨h1, h2, h3, h4, h5, h6, h7⟩ := h
  obtain ⟨g1, g2, g3, g4, g5⟩ := g
  have e : ln σ l = y.2.1 := by unfold ln; omega
  refine ⟨by rw [h1]; exact g1, by rw [h2]; omega, by rw [h3]; omega, by rw [h4]; omega, Or.inl h5, fun p hp => ?_, fun p q hp hq => ?_, fun p hp => ?_⟩
  · rw [e] at hp; rw [h6 p hp]; exact g3 p hp
  · rw [e] at hp hq; rw [h6 p hp, h6 q hq]; exact g4 p q hp hq
  · rw [e] at hp
    have a := h7 p hp
    have b := g5 p hp
    rw [a.1, a.2.1, a.2.2]; omega
theorem LnV.at_ {y : zLn} (h : LnV y V l) (g : LnQ y σ P) : LnAt V σ l P := by
  obtain ⟨h1, h2, h3, h4, h5, h6, h7⟩ := h
  obtain ⟨g1, g2, g3, g4, g5, g6, g7⟩ := g
  have e : ln V l = y.2.1 := by unfold ln; omega
  refine ⟨by rw [h1]; exact g1, by rw [h2]; exact g2, by rw [h3]; exact g3, by rw [h4]; exact g4, by rw [h5]; exact g5, fun p hp => ?_, fun p hp => ?_⟩
  · rw [e] at hp; rw [h6 p hp]; exact g6 p hp
  · rw [e] at hp
    have a := h7 p hp
    rw [a.1, a.2.1, a.2.2]; exact g7 p hp
theorem ClE.lo (h : ClE V n0 LS m u cl σ) (hm : n0 + m ≤ 12) (g : Lo σ σ') : ClE V n0 LS m u cl σ' := by
  obtain ⟨h1, h2, h3, h4, h5, h6, h7, h8, h9, h10, h11⟩ := h
  obtain ⟨t1, t2, t3⟩ := tab_mv h1 (σ' := σ') (g _ _ (by omega)) (g _ _ (by omega)) (fun j => g _ _ (by omega)) (fun j => g _ _ (by omega))
  refine ⟨t1, by rw [g _ _ (by omega)]; exact h2, by rw [g _ _ (by omega)]; exact h3, by rw [g _ _ (by omega)]; exact h4, by rw [g _ _ (by omega)]; exact h5, by rw [g _ _ (by omega)]; exact h6, fun s hs => by rw [g _ _ (by omega), g _ _ (by omega)]; exact h7 s hs, fun l hl => ?_, fun k hk => ?_, by rw [g _ _ (by omega)]; exact h10, ⟨by rw [g _ _ (by omega)]; exact h11.1, fun i hi => by rw [g _ _ (by omega)]; exact h11.2 i hi⟩⟩
  · rw [t2]
    have hP := h1.2.1 l (by omega)
    exact ln_mv (h8 l hl) hP (fun k j a b => g k j (by omega))
  · rw [t2]
    have hP := h1.2.1 (n0 + k) (by omega)
    exact (h9 k hk).mv (fun k j a b => g k j (by omega))
theorem en_inv (h : OkA t V) (hn0 : n0 ≤ nn V) (hm : n0 + m ≤ 12) (hu : 0 ≤ u ∧ u ≤ 200 * ((t + 1 : Nat) : Int)) (hcl : ∀ s, s < 10 → cl s = 0 ∨ cl s = 1) (hC : ClE V n0 LS m u cl σ) (hR : RfE V n0 LS m u cl σ) : Inv (t + 1) σ := by
  obtain ⟨c1, c2, c3, c4, c5, c6, c7, c8, c9, c10, c11⟩ := hC
  obtain ⟨r1, r2, r3, r4, r5, r6, r7, r8, r9⟩ := hR
  obtain ⟨⟨o1, o2, o3, o4, o5, o6⟩, ok2, ok3, ok4, ok5⟩ := h
  have en : nn σ = n0 + m := by unfold nn; omega
  have hlin : ∀ l, l < n0 → ln σ l = ln V l := fun l hl => by unfold ln; rw [r8 330 l (by omega) hl]
  have hl8 : ∀ l, l < n0 → ln V l ≤ 8 := fun l hl => by have := (o6 l (by omega)).2.1; unfold ln; omega
  have hsplit : ∀ l, l < n0 + m → l < n0 ∨ ∃ k, k < m ∧ l = n0 + k := fun l hl => by
    rcases Nat.lt_or_ge l n0 with g | g
    · exact Or.inl g
    · exact Or.inr ⟨l - n0, by omega, by omega⟩
  refine ⟨σ, ⟨⟨?_, ?_, ?_, ?_, fun s hs => ?_, fun l hl => ?_⟩, ?_, ⟨?_, ?_, fun l hl p hp => ?_⟩, ?_, ?_⟩, ⟨⟨c1, ?_, ?_, ?_, ?_, ?_, fun s hs => ?_, fun l hl => ?_⟩, ⟨?_, fun i hi => ?_⟩, ⟨?_, fun i hi => ?_⟩⟩, ⟨⟨fun _ _ => rfl, fun _ _ _ _ => rfl⟩, fun _ _ => rfl, rfl, fun _ => rfl, rfl, fun _ => rfl⟩⟩
  · rw [r1]; omega
  · rw [r2 10 (by omega)]; exact o2
  · rw [r2 11 (by omega)]; exact o3
  · rw [r2 12 (by omega)]; exact o4
  · rw [(r6 s hs).1, (r6 s hs).2]; exact ⟨(o5 s hs).1, hcl s hs⟩
  · rw [en] at hl
    rcases hsplit l hl with g | ⟨k, hk, rfl⟩
    · obtain ⟨p1, p2, p3, p4, p5, p6, p7, p8⟩ := o6 l (by omega)
      have h8 := hl8 l g
      refine ⟨by rw [r8 329 l (by omega) g]; exact p1, by rw [r8 330 l (by omega) g]; exact p2, by rw [r8 335 l (by omega) g]; exact p3, by rw [r8 336 l (by omega) g]; exact p4, by rw [r8 337 l (by omega) g]; exact p5, fun p hp => ?_, fun p q hp hq => ?_, fun p hp => ?_⟩
      · rw [hlin l g] at hp; rw [r9 331 _ (by omega) (by omega) (by omega)]; exact p6 p hp
      · rw [hlin l g] at hp hq; rw [r9 331 _ (by omega) (by omega) (by omega), r9 331 _ (by omega) (by omega) (by omega)]; exact p7 p q hp hq
      · rw [hlin l g] at hp; rw [r9 332 _ (by omega) (by omega) (by omega), r9 333 _ (by omega) (by omega) (by omega), r9 334 _ (by omega) (by omega) (by omega)]; exact p8 p hp
    · exact (r7 k hk).1.ok (r7 k hk).2
  · rw [r2 37 (by omega)]; exact ok2
  · rw [r3]; exact hu.1
  · rw [r3]; exact hu.2
  · rw [en] at hl
    rcases hsplit l hl with g | ⟨k, hk, rfl⟩
    · have h8 := hl8 l g
      rw [hlin l g] at hp
      rw [r9 332 _ (by omega) (by omega) (by omega), r9 333 _ (by omega) (by omega) (by omega)]
      exact ok3.2.2 l (by omega) p hp
    · obtain ⟨b1, b2⟩ := r7 k hk
      have e : ln σ (n0 + k) = (LS k).2.1 := by have := b1.2.1; unfold ln; omega
      rw [e] at hp
      have a1 := b1.2.2.2.2.2.2 p hp
      have a2 := b2.2.2.2.2 p hp
      rw [a1.1, a1.2.1]; omega
  · rw [r4]; omega
  · rw [r2 19 (by omega)]; exact ok5
  · rw [r1]; exact c2
  · rw [r2 10 (by omega)]; exact c3
  · rw [r2 11 (by omega)]; exact c4
  · rw [r2 12 (by omega)]; exact c5
  · rw [r3]; exact c6
  · rw [(r6 s hs).1, (r6 s hs).2]; exact c7 s hs
  · rw [en] at hl
    rcases hsplit l hl with g | ⟨k, hk, rfl⟩
    · obtain ⟨p1, p2, p3, p4, p5, p6, p7⟩ := c8 l g
      have h8 := hl8 l g
      refine ⟨by rw [r8 329 l (by omega) g]; exact p1, by rw [r8 330 l (by omega) g]; exact p2, by rw [r8 335 l (by omega) g]; exact p3, by rw [r8 336 l (by omega) g]; exact p4, by rw [r8 337 l (by omega) g]; exact p5, fun p hp => ?_, fun p hp => ?_⟩
      · rw [hlin l g] at hp; rw [r9 331 _ (by omega) (by omega) (by omega)]; exact p6 p hp
      · rw [hlin l g] at hp; rw [r9 332 _ (by omega) (by omega) (by omega), r9 333 _ (by omega) (by omega) (by omega), r9 334 _ (by omega) (by omega) (by omega)]; exact p7 p hp
    · exact (r7 k hk).1.at_ (c9 k hk)
  · rw [c10, r4]
  · rw [r4] at hi; omega
  · rw [r2 19 (by omega)]; exact c11.1
  · rw [r2 19 (by omega)] at hi
    rw [r5]; exact c11.2 i hi
theorem net_go {Q : Int → Mem → Prop} {g : Int → Mem → Int → Mem → PR} (hfu : 1000 < fu) (hI : Inv t σ) (hk : ∀ r σ1 σ2, Inv (t + 1) σ2 → wp (g r σ1 r σ2) Q) : wp (bnd (fX6_net fu σ) (fun x s2 => bnd (fX7_net fu s2) (fun y s3 => g x s2 y s3))) Q := by
  obtain ⟨V, h1, h2, h3⟩ := hI
  refine wp_bnd _ (c_net h1 hfu h2) ?_
  rintro x s2 ⟨hh, c⟩
  refine wp_bnd _ (r_net h1 hfu (h3.hi hh)) ?_
  rintro y s3 ⟨ll, d⟩
  rcases c with ⟨c1, rfl, c2⟩ | ⟨c1, rfl, c2⟩
  · rcases d with ⟨d1, rfl, d2⟩ | ⟨d1, _⟩
    · exact hk _ s2 s3 ⟨_, (tx0_ok h1).up, c2.lo (tx0_ok h1).1 ll, d2⟩
    · exact absurd d1 c1
  · rcases d with ⟨d1, _⟩ | ⟨d1, rfl, d2, d3⟩
    · exact absurd c1 d1
    · exact hk _ s2 s3 (en_inv h1 (Nat.zero_le _) (by omega) (by omega) (fun _ _ => Or.inl rfl) (c2.lo (by omega) ll) d2)
theorem adds_go {Q : Int → Mem → Prop} {g : Int → Mem → Int → Mem → PR} (hfu : 1000 < fu) (hI : Inv t σ) (hk : ∀ r σ1 σ2, Inv (t + 1) σ2 → wp (g r σ1 r σ2) Q) : wp (bnd (fX6_adds fu σ) (fun x s2 => bnd (fX7_adds fu s2) (fun y s3 => g x s2 y s3))) Q := by
  obtain ⟨V, h1, h2, h3⟩ := hI
  refine wp_bnd _ (c_adds h1 hfu h2) ?_
  rintro x s2 ⟨hh, c⟩
  refine wp_bnd _ (r_adds h1 hfu (h3.hi hh)) ?_
  rintro y s3 ⟨ll, d⟩
  rcases c with ⟨c1, rfl, c2⟩ | ⟨c1, rfl, c2⟩
  · rcases d with ⟨d1, rfl, d2⟩ | ⟨d1, _⟩
    · exact hk _ s2 s3 ⟨_, (tx0_ok h1).up, c2.lo (tx0_ok h1).1 ll, d2⟩
    · exact absurd d1 c1
  · rcases d with ⟨d1, _⟩ | ⟨d1, rfl, d2, d3⟩
    · exact absurd c1 d1
    · have h13 := h1.2.2.1
      exact hk _ s2 s3 (en_inv h1 (Nat.le_refl _) d3 (by omega) (fun s hs => (h1.1.2.2.2.2.1 s hs).2) (c2.lo d3 ll) d2)
end NETINV
