section
variable {d w : Nat} {mem m' : zMem} {Q : Int → zMem → Prop} {R S : zMem → Prop} {g : zPg}
theorem Ipal.add {a b c : Int} (hI : Ipal mem) (hn : gN (mem 123) < 14) (ha : 0 ≤ a ∧ a < mem 122 1) (hb : 0 ≤ b ∧ b < mem 122 1) (hab : a ≠ b) (hc : 0 ≤ c ∧ c < 4) (h1 : m' 123 = gAdd (mem 123) a b c) (h2 : Hs m' 2 (gAdd (mem 123) a b c) (mem 122 1)) (h3 : ∀ c, c ≠ 123 → (c < 2 ∨ 7 < c) → m' c = mem c) : Ipal m' := by
  obtain ⟨⟨w1, w2, w3, w4, w5, w6⟩, p1, p2, p3, p4, p5⟩ := hI
  have hN := w1.1
  obtain ⟨eN, o, eD, n1, n2, n3, n4⟩ := gAdd_at (g := mem 123) (a := a) (b := b) (c := c) ⟨hN.1, hn⟩
  have eL : gL (gAdd (mem 123) a b c) = gL (mem 123) := o 73 (by omega)
  have eP : gP (gAdd (mem 123) a b c) = gP (mem 123) := o 72 (by omega)
  have eW : gW (gAdd (mem 123) a b c) = gW (mem 123) := o 86 (by omega)
  have hr : m' 122 1 = mem 122 1 := by rw [h3 122 (by omega) (by omega)]
  have hi3 : ∀ i : Nat, gR (gAdd (mem 123) a b c) i = gR (mem 123) i ∧ gT (gAdd (mem 123) a b c) i = gT (mem 123) i ∧ gU (gAdd (mem 123) a b c) i = gU (mem 123) i := fun i => ⟨o _ (by omega), o _ (by omega), o _ (by omega)⟩
  unfold Ipal
  rw [hr, h1]
  refine ⟨⟨⟨by rw [eN]; omega, by rw [eL]; exact w1.2.1, fun j hj => ?_⟩, w2, fun j hj => ?_, by rw [eP]; exact w4, fun i hi => ?_, by rw [eW]; exact w6.1, fun i hi => ?_⟩, h2, by rw [h3 1 (by omega) (by omega), eP]; exact p2, fun i hi => ?_, by rw [h3 1 (by omega) (by omega), eW]; exact p4, fun i hi => ?_⟩
  · rw [eN] at hj
    by_cases e : (j : Int) < gN (mem 123)
    · obtain ⟨a1, a2, a3, a4⟩ := eD j e
      rw [a1, a2, a3, a4]
      exact w1.2.2 j e
    · have : j = (gN (mem 123)).toNat := by omega
      rw [this, n1, n2, n3, n4]
      exact ⟨by omega, by omega, hab, hc, Or.inl rfl⟩
  · rw [eN] at hj
    by_cases e : (j : Int) < gN (mem 123)
    · obtain ⟨a1, a2, a3, a4⟩ := eD j e
      rw [a1, a2]
      exact w3 j e
    · have : j = (gN (mem 123)).toNat := by omega
      rw [this, n1, n2]
      exact ⟨ha.2, hb.2⟩
  · rw [eP] at hi
    obtain ⟨a1, a2, a3⟩ := hi3 i
    obtain ⟨b1, b2, b3, b4⟩ := w5 i hi
    unfold gWk
    rw [a1, a2, a3, eN]
    refine ⟨b1, ?_, by omega, b4⟩
    rcases b2 with b2 | ⟨b2, b2', b2''⟩
    · exact Or.inl b2
    · obtain ⟨c1, c2, -, -⟩ := eD (gT (mem 123) i).toNat (by omega)
      rw [c1, c2]
      exact Or.inr ⟨b2, by omega, b2''⟩
  · rw [eW] at hi
    rw [o (74 + i) (by omega), eN]
    have := w6.2 i hi
    omega
  · rw [eP] at hi
    obtain ⟨a1, a2, a3⟩ := hi3 i
    rw [a1, a2, a3]
    have := p3 i hi
    unfold Ws at this ⊢
    rw [h3 (1 + 8 + i) (by omega) (by omega)]
    exact this
  · rw [eW] at hi
    rw [o (74 + i) (by omega), h3 (1 + 13) (by omega) (by omega)]
    exact p5 i hi
end
