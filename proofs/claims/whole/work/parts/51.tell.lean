section
variable {d w : Nat} {mem m' : zMem} {Q : Int → zMem → Prop} {R S : zMem → Prop} {g g' : zPg} {rm : Int}
/-- promise tell -/
theorem t_tell {a : Int} (hI : Ipal mem) (hR : ∀ m', Ipal m' → (∀ k, k ≠ 123 → k ≠ 1 → k ≠ 14 → m' k = mem k) → (∀ i, ¬ (74 ≤ i ∧ i ≤ 86) → m' 123 i = mem 123 i) → (∀ i, i ≠ 4 → m' 1 i = mem 1 i) → R m') : zC (d + 3) K_Od_tell [(2, Int.ofNat 0), (0, a)] mem (fun r1 m1 => zC (d + 3) K_Mo_tell [(2, Int.ofNat 122), (0, a)] m1 (fun r2 m2 => (r1 = r2 → R m2) ∧ (r1 ≠ r2 → S m2))) := by
  obtain ⟨⟨w1, w2, w3, w4, w5, w6⟩, p1, p2, p3, p4, p5⟩ := id hI
  have hN := w1.1
  have hn0 : mem 2 2 = gN (mem 123) := p1.2.2.1
  have hWd : gW (mem 123) = mem 123 86 := rfl
  rw [hWd] at p4 p5 w6
  have same : ∀ x : Int, (x = x → R mem) ∧ (x ≠ x → S mem) := fun x => ⟨fun _ => hR mem hI (fun _ _ _ _ => rfl) (fun _ _ => rfl) (fun _ _ => rfl), fun q => absurd rfl q⟩
  refine v_Od_tell (c_Ho_hasDoor (d := d + 1) (Or.inl rfl) (fun c => ⟨fun _ => ⟨fun c2 => ⟨by omega, fun m2 f2 m3 f3 => ?_⟩, fun c2 => ?_⟩, fun q => absurd q (by decide)⟩) (fun c => ⟨fun q => absurd rfl q, fun _ => ?_⟩))
  · rw [hn0] at c
    have z1 : m2 1 4 = mem 123 86 := by rw [f2, zup_k (by omega), p4]
    have z2 : zadd (m2 1 4) 1 = mem 123 86 + 1 := by rw [z1]; exact zadd_n (by unfold zI; omega)
    have y1 : m3 1 4 = mem 123 86 + 1 := by rw [f3, zup_e, z2]
    have q3 : m3 123 = mem 123 := by funext i; rw [f3, zup_k (by omega), f2, zup_k (by omega)]
    refine v_Mo_tell (c_Mo_isDoor (d := d) (by rw [q3]; exact hN.1) (fun c3 => ⟨fun _ => ⟨fun c4 => ?_, fun c4 => ?_⟩, fun q => absurd q (by decide)⟩) (fun c3 => absurd (by rw [q3]; exact c) c3))
    · rw [q3] at c4 ⊢
      have i1 : zadd 74 (mem 123 86) = 74 + mem 123 86 := zadd_n (by unfold zI; omega)
      rw [i1, show (74 + mem 123 86).toNat = 74 + (mem 123 86).toNat by omega]
      refine ⟨by omega, fun m4 f4 m5 f5 => ?_⟩
      have z3 : m4 123 86 = mem 123 86 := by rw [f4, zup_j (by omega), q3]
      have y2 : m5 123 86 = mem 123 86 + 1 := by rw [f5, zup_e, z3]; exact zadd_n (by unfold zI; omega)
      have hf0 : ∀ k, k ≠ 123 → m5 k = m3 k := fun k hk => by funext i; rw [f5, zup_k hk, f4, zup_k hk]
      have hf : ∀ k, k ≠ 123 → k ≠ 1 → k ≠ 14 → m5 k = mem k := fun k k1 k2 k3 => by rw [hf0 k k1]; funext i; rw [f3, zup_k k2, f2, zup_k k3]
      have hg : ∀ i, i ≠ 86 → i ≠ 74 + (mem 123 86).toNat → m5 123 i = mem 123 i := fun i i1 i2 => by rw [f5, zup_j i1, f4, zup_j i2, q3]
      have hge : m5 123 (74 + (mem 123 86).toNat) = a := by rw [f5, zup_j (by omega), f4, zup_e]
      have h1 : ∀ i, i ≠ 4 → m5 1 i = mem 1 i := fun i hi => by rw [hf0 1 (by omega), f3, zup_j hi, f2, zup_k (by omega)]
      have h14 : ∀ i, i ≠ (mem 123 86).toNat → m5 14 i = mem 14 i := fun i hi => by rw [hf0 14 (by omega), f3, zup_k (by omega), f2, p4, zup_j hi]
      have h14e : m5 14 (mem 123 86).toNat = a := by rw [hf0 14 (by omega), f3, zup_k (by omega), f2, p4, zup_e]
      refine ⟨fun _ => hR m5 (hI.of ?_ (fun i hi => hg i (by omega) (by omega)) ?_ ?_ (fun i hi => ?_) (fun k k1 k2 => hf k (by omega) (by omega) (by omega)) (h1 2 (by omega)) ?_ ?_ (fun i hi => ?_)) hf (fun i hi => hg i (by omega) (by omega)) h1, fun q => absurd (by rw [y1, y2]) q⟩
      · rw [hf 122 (by omega) (by omega) (by omega)]
      · rw [hg 73 (by omega) (by omega)]; exact w1.2.1
      · rw [hg 73 (by omega) (by omega), hf 2 (by omega) (by omega) (by omega)]; exact p1.2.1
      · rw [hf 2 (by omega) (by omega) (by omega)]
      · rw [hf0 1 (by omega), y1, y2]
      · rw [y2]; omega
      · rw [y2] at hi
        by_cases e : i = (mem 123 86).toNat
        · rw [e, hge, h14e]
          exact ⟨rfl, c⟩
        · rw [hg (74 + i) (by omega) (by omega), h14 i e]
          exact ⟨p5 i (by omega), w6.2 i (by omega)⟩
    · rw [q3] at c4
      omega
  · rw [hn0] at c
    refine v_Mo_tell (c_Mo_isDoor (d := d) hN.1 (fun c3 => ⟨fun _ => ⟨fun c4 => ?_, fun c4 => same _⟩, fun q => absurd q (by decide)⟩) (fun c3 => absurd c c3))
    omega
  · rw [hn0] at c
    exact v_Mo_tell (c_Mo_isDoor (d := d) hN.1 (fun c3 => absurd c3 c) (fun c3 => ⟨fun q => absurd rfl q, fun _ => same _⟩))
end
