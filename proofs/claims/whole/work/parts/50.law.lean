section
variable {d w : Nat} {mem m' : zMem} {Q : Int → zMem → Prop} {R S : zMem → Prop} {g g' : zPg} {rm : Int}
/-- the palace stands when only its law and the told walk have changed -/
theorem Ipal.of (hI : Ipal mem) (hr : m' 122 1 = mem 122 1) (hg : ∀ i, i < 73 → m' 123 i = mem 123 i) (hL : 0 ≤ m' 123 73 ∧ m' 123 73 ≤ 3) (hL2 : m' 2 1 = m' 123 73) (h2 : ∀ i, i ≠ 1 → m' 2 i = mem 2 i) (hc : ∀ k, 3 ≤ k → k ≤ 13 → m' k = mem k) (h12 : m' 1 2 = mem 1 2) (h14 : m' 1 4 = m' 123 86) (hW : 0 ≤ m' 123 86 ∧ m' 123 86 ≤ 12) (ht : ∀ i : Nat, (i : Int) < m' 123 86 → m' 14 i = m' 123 (74 + i) ∧ 0 ≤ m' 123 (74 + i) ∧ m' 123 (74 + i) < gN (mem 123)) : Ipal m' := by
  obtain ⟨⟨w1, w2, w3, w4, w5, w6⟩, p1, p2, p3, p4, p5⟩ := hI
  have hN := w1.1
  have eN : gN (m' 123) = gN (mem 123) := hg 56 (by omega)
  have eP : gP (m' 123) = gP (mem 123) := hg 72 (by omega)
  have eD : ∀ k : Nat, k < 14 → gA (m' 123) k = gA (mem 123) k ∧ gB (m' 123) k = gB (mem 123) k ∧ gC (m' 123) k = gC (mem 123) k ∧ gX (m' 123) k = gX (mem 123) k := fun k hk => ⟨hg _ (by omega), hg _ (by omega), hg _ (by omega), hg _ (by omega)⟩
  have hi3 : ∀ i : Nat, (i : Int) < gP (mem 123) → gR (m' 123) i = gR (mem 123) i ∧ gT (m' 123) i = gT (mem 123) i ∧ gU (m' 123) i = gU (mem 123) i := fun i hi => ⟨hg _ (by omega), hg _ (by omega), hg _ (by omega)⟩
  obtain ⟨h0, h1, h2', h3, h4, h5, h6⟩ := p1
  unfold Ipal
  rw [hr]
  refine ⟨⟨⟨by rw [eN]; exact hN, hL, fun k hk => ?_⟩, w2, fun k hk => ?_, by rw [eP]; exact w4, fun i hi => ?_, hW, fun i hi => by rw [eN]; exact (ht i hi).2⟩, ⟨?_, hL2, ?_, fun k hk => ?_, fun k hk => ?_, fun r hr k hk => ?_, fun c hc' k hk => ?_⟩, by rw [h12, eP]; exact p2, fun i hi => ?_, h14, fun i hi => (ht i hi).1⟩
  · rw [eN] at hk
    obtain ⟨a1, a2, a3, a4⟩ := eD k (by omega)
    rw [a1, a2, a3, a4]
    exact w1.2.2 k hk
  · rw [eN] at hk
    obtain ⟨a1, a2, a3, a4⟩ := eD k (by omega)
    rw [a1, a2]
    exact w3 k hk
  · rw [eP] at hi
    obtain ⟨a1, a2, a3⟩ := hi3 i hi
    obtain ⟨b1, b2, b3, b4⟩ := w5 i hi
    unfold gWk
    rw [a1, a2, a3, eN]
    refine ⟨b1, ?_, b3, b4⟩
    rcases b2 with b2 | ⟨b2, b2', b2''⟩
    · exact Or.inl b2
    · obtain ⟨c1, c2, -, -⟩ := eD (gT (mem 123) i).toNat (by omega)
      rw [c1, c2]
      exact Or.inr ⟨b2, b2', b2''⟩
  · show m' 2 0 = _
    rw [h2 0 (by omega)]; exact h0
  · show m' 2 2 = _
    rw [h2 2 (by omega), eN]; exact h2'
  · show zB (m' 2 3) k ↔ _
    rw [h2 3 (by omega), eN]
    refine (h3 k hk).trans ?_
    by_cases q : (k : Int) < gN (mem 123)
    · rw [(eD k (by omega)).2.2.2]
    · exact ⟨fun z => absurd z.1 q, fun z => absurd z.1 q⟩
  · rw [eN] at hk
    obtain ⟨a1, a2, a3, a4⟩ := eD k (by omega)
    rw [a1, a2, a3, hc (1 + 1 + 1) (by omega) (by omega), hc (1 + 1 + 2) (by omega) (by omega), hc (1 + 1 + 3) (by omega) (by omega)]
    exact h4 k hk
  · rw [hc (1 + 1 + 4) (by omega) (by omega), h5 r hr k hk]
    unfold gO
    rw [eN]
    by_cases q : (k : Int) < gN (mem 123)
    · obtain ⟨a1, a2, a3, a4⟩ := eD k (by omega)
      rw [a1, a2, a4]
    · exact ⟨fun z => absurd z.1 q, fun z => absurd z.1 q⟩
  · rw [hc (1 + 1 + 5) (by omega) (by omega), h6 c hc' k hk, eN]
    by_cases q : (k : Int) < gN (mem 123)
    · rw [(eD k (by omega)).2.2.1]
    · exact ⟨fun z => absurd z.1 q, fun z => absurd z.1 q⟩
  · rw [eP] at hi
    obtain ⟨a1, a2, a3⟩ := hi3 i hi
    rw [a1, a2, a3]
    have := p3 i hi
    unfold Ws at this ⊢
    rw [hc (1 + 8 + i) (by omega) (by omega)]
    exact this
/-- promise law -/
theorem t_law {a : Int} (hI : Ipal mem) (hR : ∀ m', Ipal m' → (∀ k, k ≠ 123 → k ≠ 2 → m' k = mem k) → (∀ i, i ≠ 73 → m' 123 i = mem 123 i) → R m') : zC (d + 2) K_Od_law [(2, Int.ofNat 0), (0, a)] mem (fun r1 m1 => zC (d + 2) K_Mo_law [(2, Int.ofNat 122), (0, a)] m1 (fun r2 m2 => (r1 = r2 → R m2) ∧ (r1 ≠ r2 → S m2))) := by
  obtain ⟨⟨w1, w2, w3, w4, w5, w6⟩, p1, p2, p3, p4, p5⟩ := id hI
  have same : ∀ x : Int, (x = x → R mem) ∧ (x ≠ x → S mem) := fun x => ⟨fun _ => hR mem hI (fun _ _ _ => rfl) (fun _ _ => rfl), fun q => absurd rfl q⟩
  have bad : ¬ (0 ≤ a ∧ a ≤ 3) → zC (d + 2) K_Mo_law [(2, Int.ofNat 122), (0, a)] mem (fun r2 m2 => (-1 = r2 → R m2) ∧ (-1 ≠ r2 → S m2)) := fun hb =>
    v_Mo_law (c_Mo_in (d := d) (fun c4 => absurd c4 hb) (fun c4 => ⟨fun q => absurd rfl q, fun _ => same _⟩))
  refine v_Od_law ⟨fun c => bad (by omega), fun c => ⟨fun c2 x1 e1 m1 f1 => ?_, fun c2 => bad (by omega)⟩⟩
  refine v_Mo_law (c_Mo_in (d := d) (fun c4 => ⟨fun _ x2 e2 m2 f2 => ?_, fun q => absurd q (by decide)⟩) (fun c4 => absurd (by omega) c4))
  have hx : x1 = x2 := by rw [e1, e2, f1, zup_k (by omega)]; exact p1.2.1
  have hg : ∀ i, i ≠ 73 → m2 123 i = mem 123 i := fun i hi => by rw [f2, zup_j hi, f1, zup_k (by omega)]
  have hf : ∀ k, k ≠ 123 → k ≠ 2 → m2 k = mem k := fun k k1 k2 => by funext i; rw [f2, zup_k k1, f1, zup_k k2]
  have h73 : m2 123 73 = a := by rw [f2, zup_e]
  refine ⟨fun _ => hR m2 (hI.of ?_ (fun i hi => hg i (by omega)) (by omega) ?_ (fun i hi => ?_) (fun k k1 k2 => hf k (by omega) (by omega)) ?_ ?_ ?_ (fun i hi => ?_)) hf hg, fun q => absurd hx q⟩
  · rw [hf 122 (by omega) (by omega)]
  · rw [h73, f2, zup_k (by omega), f1, zup_e]
  · rw [f2, zup_k (by omega), f1, zup_j hi]
  · rw [hf 1 (by omega) (by omega)]
  · rw [hf 1 (by omega) (by omega), hg 86 (by omega)]; exact p4
  · rw [hg 86 (by omega)]; exact w6.1
  · rw [hg 86 (by omega)] at hi
    rw [hg (74 + i) (by omega), hf 14 (by omega) (by omega)]
    exact ⟨p5 i hi, w6.2 i hi⟩
end
