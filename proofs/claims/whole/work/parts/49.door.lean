section
variable {d w : Nat} {mem m' : zMem} {Q : Int → zMem → Prop} {R S : zMem → Prop} {g g' : zPg} {rm : Int}
/-- promise door -/
theorem t_door {a b : Int} (hI : Ipal mem) (hR : R mem) : zC (d + 3) K_Od_door [(2, Int.ofNat 0), (0, a), (0, b)] mem (fun r1 m1 => zC (d + 3) K_Mo_door [(2, Int.ofNat 122), (0, a), (0, b)] m1 (fun r2 m2 => (r1 = r2 → R m2) ∧ (r1 ≠ r2 → S m2))) := by
  obtain ⟨⟨w1, w2, w3, w4, w5, w6⟩, hP⟩ := id hI
  have hN := w1.1
  have hn0 : mem 2 2 = gN (mem 123) := hP.1.2.2.1
  have same : ∀ x y : Int, x = y → (x = y → R mem) ∧ (x ≠ y → S mem) := fun x y e => ⟨fun _ => hR, fun q => absurd e q⟩
  refine v_Od_door (c_Ho_hasDoor (d := d + 1) (Or.inl rfl) (fun c => ⟨fun _ => ?_, fun q => absurd q (by decide)⟩) (fun c => ⟨fun q => absurd rfl q, fun _ => ?_⟩))
  · rw [hn0] at c
    obtain ⟨x1, x2, x3⟩ := hP.1.2.2.2.2.1 a.toNat (by omega)
    have plain : ∀ x : Int, 0 ≤ b ∧ b ≤ 3 → x = mem 123 (4 * a.toNat + b.toNat) → zC (d + 3) K_Mo_door [(2, Int.ofNat 122), (0, a), (0, b)] mem (fun r2 m2 => (x = r2 → R m2) ∧ (x ≠ r2 → S m2)) := by
      intro x hb hx
      refine v_Mo_door (c_Mo_isDoor (d := d) hN.1 (fun c3 => ⟨fun q => absurd q (by decide), fun _ => ?_⟩) (fun c3 => absurd c c3))
      refine c_Mo_in (d := d + 1) (fun c4 => ⟨fun q => absurd q (by decide), fun _ => ?_⟩) (fun c4 => absurd hb c4)
      have i1 : zmul 4 a = 4 * a := zmul_n (by unfold zI; omega)
      have i2 : zadd (4 * a) b = 4 * a + b := zadd_n (by unfold zI; omega)
      rw [i1, i2, show (4 * a + b).toNat = 4 * a.toNat + b.toNat by omega]
      exact ⟨by omega, same _ _ hx⟩
    refine ⟨fun e => ⟨by omega, plain _ (by omega) ?_⟩, fun e => ⟨by omega, plain _ (by omega) ?_⟩, fun e => ⟨by omega, plain _ (by omega) ?_⟩, fun e => ?_, fun e => ?_⟩
    · rw [e]; exact x1
    · rw [e]; exact x2
    · rw [e]; exact x3
    · obtain ⟨-, -, -, -, hX⟩ := w1.2.2 a.toNat (by omega)
      refine c_Ho_isWalled (d := d + 1) (Or.inl rfl) hP.1 (by omega) c (fun q => ⟨fun z => absurd z (by decide), fun _ => plain _ (by omega) ?_⟩) (fun q => ⟨fun _ => plain _ (by omega) ?_, fun z => absurd rfl z⟩)
      · rw [e]; exact q.symm
      · rw [e]; exact (hX.resolve_right q).symm
    · refine v_Mo_door (c_Mo_isDoor (d := d) hN.1 (fun c3 => ⟨fun q => absurd q (by decide), fun _ => ?_⟩) (fun c3 => absurd c c3))
      exact c_Mo_in (d := d + 1) (fun c4 => by omega) (fun c4 => ⟨fun _ => same _ _ rfl, fun q => absurd rfl q⟩)
  · rw [hn0] at c
    exact v_Mo_door (c_Mo_isDoor (d := d) hN.1 (fun c3 => absurd c3 c) (fun c3 => ⟨fun _ => same _ _ rfl, fun q => absurd rfl q⟩))
/-- promise forget -/
theorem t_forget (hI : Ipal mem) (hR : ∀ m', Ipal m' → (∀ k, k ≠ 123 → k ≠ 1 → m' k = mem k) → (∀ i, i ≠ 86 → m' 123 i = mem 123 i) → (∀ i, i ≠ 4 → m' 1 i = mem 1 i) → R m') : zC (d + 1) K_Od_forget [(2, Int.ofNat 0)] mem (fun r1 m1 => zC (d + 1) K_Mo_forget [(2, Int.ofNat 122)] m1 (fun r2 m2 => (r1 = r2 → R m2) ∧ (r1 ≠ r2 → S m2))) := by
  obtain ⟨⟨w1, w2, w3, w4, w5, w6⟩, p1, p2, p3, p4, p5⟩ := id hI
  refine v_Od_forget fun x1 e1 m1 f1 => v_Mo_forget fun x2 e2 m2 f2 => ?_
  have hx : x1 = x2 := by rw [e1, e2, f1, zup_k (by omega)]; exact p4
  have hg : ∀ i, i ≠ 86 → m2 123 i = mem 123 i := fun i hi => by rw [f2, zup_j hi, f1, zup_k (by omega)]
  have hf : ∀ k, k ≠ 123 → k ≠ 1 → m2 k = mem k := fun k k1 k2 => by funext i; rw [f2, zup_k k1, f1, zup_k k2]
  have h1 : ∀ i, i ≠ 4 → m2 1 i = mem 1 i := fun i hi => by rw [f2, zup_k (by omega), f1, zup_j hi]
  have h14 : m2 1 4 = 0 := by rw [f2, zup_k (by omega), f1, zup_e]
  have h86 : gW (m2 123) = 0 := by show m2 123 86 = 0; rw [f2, zup_e]
  have e1 : gEq (mem 123) (m2 123) := ⟨fun i hi => hg i (by omega), hg 73 (by omega)⟩
  have eP : gP (m2 123) = gP (mem 123) := hg 72 (by omega)
  have hr : m2 122 1 = mem 122 1 := by rw [hf 122 (by omega) (by omega)]
  have hi3 : ∀ i : Nat, (i : Int) < gP (mem 123) → gR (m2 123) i = gR (mem 123) i ∧ gT (m2 123) i = gT (mem 123) i ∧ gU (m2 123) i = gU (mem 123) i := fun i hi => ⟨hg _ (by omega), hg _ (by omega), hg _ (by omega)⟩
  have hN := w1.1
  refine ⟨fun _ => hR m2 ?_ hf hg h1, fun q => absurd hx q⟩
  unfold Ipal
  rw [hr]
  refine ⟨⟨e1.Do w1, w2, fun k hk => ?_, by rw [eP]; exact w4, fun i hi => ?_, by rw [h86]; omega, fun i hi => by rw [h86] at hi; omega⟩, e1.Hs hN.2 (fun k _ _ => hf k (by omega) (by omega)) p1, by rw [h1 2 (by omega), eP]; exact p2, fun i hi => ?_, by rw [h14, h86], fun i hi => by rw [h86] at hi; omega⟩
  · rw [e1.N] at hk
    obtain ⟨a1, a2, -, -⟩ := e1.at (k := k) (by omega)
    rw [a1, a2]
    exact w3 k hk
  · rw [eP] at hi
    obtain ⟨a1, a2, a3⟩ := hi3 i hi
    obtain ⟨b1, b2, b3, b4⟩ := w5 i hi
    unfold gWk
    rw [a1, a2, a3, e1.N]
    refine ⟨b1, ?_, b3, b4⟩
    rcases b2 with b2 | ⟨b2, b2', b2''⟩
    · exact Or.inl b2
    · obtain ⟨c1, c2, -, -⟩ := e1.at (k := (gT (mem 123) i).toNat) (by omega)
      rw [c1, c2]
      exact Or.inr ⟨b2, b2', b2''⟩
  · rw [eP] at hi
    obtain ⟨a1, a2, a3⟩ := hi3 i hi
    rw [a1, a2, a3]
    have := p3 i hi
    unfold Ws at this ⊢
    rw [hf (1 + 8 + i) (by omega) (by omega)]
    exact this
end
