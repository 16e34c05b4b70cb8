section
variable {d w : Nat} {mem m' : zMem} {Q : Int → zMem → Prop} {R S : zMem → Prop} {g : zPg}
/-- promise build -/
theorem t_build {a b c : Int} (hI : Ipal mem) (hR : ∀ m', Ipal m' → (∀ k, k ≠ 123 → (k < 2 ∨ 7 < k) → m' k = mem k) → (∀ i, 57 ≤ i → m' 123 i = mem 123 i) → R m') : zC (d + 3) K_Od_build [(2, Int.ofNat 0), (0, a), (0, b), (0, c)] mem (fun r1 m1 => zC (d + 3) K_Mo_build [(2, Int.ofNat 122), (0, a), (0, b), (0, c)] m1 (fun r2 m2 => (r1 = r2 → R m2) ∧ (r1 ≠ r2 → S m2))) := by
  obtain ⟨⟨w1, w2, w3, w4, w5, w6⟩, hP⟩ := id hI
  have hN := w1.1
  have h0 : mem 2 0 = mem 122 1 := hP.1.1
  have same : ∀ x : Int, (x = x → R mem) ∧ (x ≠ x → S mem) := fun x => ⟨fun _ => hR mem hI (fun _ _ _ => rfl) (fun _ _ => rfl), fun q => absurd rfl q⟩
  have bad : ¬ ((0 ≤ a ∧ a < mem 122 1) ∧ (0 ≤ b ∧ b < mem 122 1) ∧ a ≠ b ∧ 0 ≤ c ∧ c ≤ 3) → zC (d + 3) K_Mo_build [(2, Int.ofNat 122), (0, a), (0, b), (0, c)] mem (fun r2 m2 => (-1 = r2 → R m2) ∧ (-1 ≠ r2 → S m2)) := by
    intro hb
    refine v_Mo_build (c_Mo_isRoom (d := d) (by omega) (fun c1 => ⟨fun q => absurd q (by decide), fun _ => ?_⟩) (fun c1 => ⟨fun _ => same _, fun q => absurd rfl q⟩))
    refine c_Mo_isRoom (d := d) (by omega) (fun c2 => ⟨fun q => absurd q (by decide), fun _ => ⟨fun _ => same _, fun c3 => ?_⟩⟩) (fun c2 => ⟨fun _ => same _, fun q => absurd rfl q⟩)
    exact c_Mo_in (d := d + 1) (fun c4 => absurd ⟨c1, c2, c3, c4⟩ hb) (fun c4 => ⟨fun q => absurd rfl q, fun _ => same _⟩)
  refine v_Od_build (c_Ho_hasRoom (d := d + 1) (Or.inl rfl) (fun c1 => ⟨fun q => absurd q (by decide), fun _ => ?_⟩) (fun c1 => ⟨fun _ => bad (by omega), fun q => absurd rfl q⟩))
  refine c_Ho_hasRoom (d := d + 1) (Or.inl rfl) (fun c2 => ⟨fun q => absurd q (by decide), fun _ => ⟨fun c3 => bad (by omega), fun c3 => ⟨fun c4 => bad (by omega), fun c4 => ⟨fun c5 => ?_, fun c5 => bad (by omega)⟩⟩⟩⟩) (fun c2 => ⟨fun _ => bad (by omega), fun q => absurd rfl q⟩)
  refine c_Ho_add (d := d + 1) (Or.inl rfl) hP.1 w1 (by omega) (by omega) c3 ⟨c4, c5⟩ (fun hn => ⟨fun _ => ?_, fun q => absurd rfl q⟩) (fun hn m1 hH hf => ⟨fun q => absurd q (by decide), fun _ => ?_⟩)
  · refine v_Mo_build (c_Mo_isRoom (d := d) (by omega) (fun _ => ⟨fun q => absurd q (by decide), fun _ => ?_⟩) (fun q => absurd (by omega) q))
    refine c_Mo_isRoom (d := d) (by omega) (fun _ => ⟨fun q => absurd q (by decide), fun _ => ⟨fun q => absurd q c3, fun _ => ?_⟩⟩) (fun q => absurd (by omega) q)
    refine c_Mo_in (d := d + 1) (fun _ => ⟨fun _ => ?_, fun q => absurd q (by decide)⟩) (fun q => absurd (by omega) q)
    exact c_Mo_doorMany (d := d + 1) ⟨fun q => absurd hn q, fun _ => same _⟩
  · have q3 : m1 123 = mem 123 := hf 123 (by omega)
    have q2 : m1 122 = mem 122 := hf 122 (by omega)
    refine v_Mo_build (c_Mo_isRoom (d := d) (by rw [q2]; omega) (fun _ => ⟨fun q => absurd q (by decide), fun _ => ?_⟩) (fun q => absurd (by rw [q2]; omega) q))
    refine c_Mo_isRoom (d := d) (by rw [q2]; omega) (fun _ => ⟨fun q => absurd q (by decide), fun _ => ⟨fun q => absurd q c3, fun _ => ?_⟩⟩) (fun q => absurd (by rw [q2]; omega) q)
    refine c_Mo_in (d := d + 1) (fun _ => ⟨fun _ => ?_, fun q => absurd q (by decide)⟩) (fun q => absurd (by omega) q)
    refine c_Mo_doorMany (d := d + 1) ⟨fun _ => ?_, fun q => ?_⟩
    · refine c_Mo_addDoor (d := d) (by rw [q3]; omega) (fun m2 g1 g2 => c_Mo_doorMany (d := d + 1) ?_)
      rw [q3] at g1
      obtain ⟨eN, o, -, -⟩ := gAdd_at (g := mem 123) (a := a) (b := b) (c := c) ⟨hN.1, hn⟩
      have hx : m1 2 2 = m2 123 56 := by rw [g1]; exact hH.2.2.1
      have hH2 : Hs m2 2 (gAdd (mem 123) a b c) (mem 122 1) := by
        unfold Hs at hH ⊢
        rw [g2 2 (by omega), g2 (2 + 1) (by omega), g2 (2 + 2) (by omega), g2 (2 + 3) (by omega), g2 (2 + 4) (by omega), g2 (2 + 5) (by omega)]
        exact hH
      refine ⟨fun _ => hR m2 (hI.add hn (by omega) (by omega) c3 ⟨c4, c5⟩ g1 hH2 (fun k k1 k2 => by rw [g2 k k1, hf k (by omega)])) (fun k k1 k2 => by rw [g2 k k1, hf k (by omega)]) (fun i hi => by rw [g1, o i hi]), fun q => absurd (by rw [hx]) q⟩
    · rw [q3] at q
      have q : gN (mem 123) = 14 := q
      omega
end
