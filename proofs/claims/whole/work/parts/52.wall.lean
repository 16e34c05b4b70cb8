section
variable {d w : Nat} {mem m' : zMem} {Q : Int → zMem → Prop} {R S : zMem → Prop} {g g' : zPg} {rm : Int}
theorem Ipal.wall {k : Nat} {v : Int} (hI : Ipal mem) (hk : (k : Int) < gN (mem 123)) (hv : v = 0 ∨ v = 1) (h1 : m' 123 = gWall (mem 123) k v) (h2 : Hs m' 2 (gWall (mem 123) k v) (mem 122 1)) (h3 : ∀ c, c ≠ 123 → (c < 2 ∨ 7 < c) → m' c = mem c) : Ipal m' := by
  obtain ⟨⟨w1, w2, w3, w4, w5, w6⟩, p1, p2, p3, p4, p5⟩ := hI
  have hN := w1.1
  have o : ∀ i, i ≠ 4 * k + 3 → gWall (mem 123) k v i = mem 123 i := fun i hi => by unfold gWall; rw [if_neg hi]
  have eN : gN (gWall (mem 123) k v) = gN (mem 123) := o 56 (by omega)
  have eL : gL (gWall (mem 123) k v) = gL (mem 123) := o 73 (by omega)
  have eP : gP (gWall (mem 123) k v) = gP (mem 123) := o 72 (by omega)
  have eW : gW (gWall (mem 123) k v) = gW (mem 123) := o 86 (by omega)
  have eA : ∀ j, gA (gWall (mem 123) k v) j = gA (mem 123) j := fun j => o _ (by omega)
  have eB : ∀ j, gB (gWall (mem 123) k v) j = gB (mem 123) j := fun j => o _ (by omega)
  have eC : ∀ j, gC (gWall (mem 123) k v) j = gC (mem 123) j := fun j => o _ (by omega)
  have hr : m' 122 1 = mem 122 1 := by rw [h3 122 (by omega) (by omega)]
  have hi3 : ∀ i : Nat, gR (gWall (mem 123) k v) i = gR (mem 123) i ∧ gT (gWall (mem 123) k v) i = gT (mem 123) i ∧ gU (gWall (mem 123) k v) i = gU (mem 123) i := fun i => ⟨o _ (by omega), o _ (by omega), o _ (by omega)⟩
  unfold Ipal
  rw [hr, h1]
  refine ⟨⟨⟨by rw [eN]; exact hN, by rw [eL]; exact w1.2.1, fun j hj => ?_⟩, w2, fun j hj => ?_, by rw [eP]; exact w4, fun i hi => ?_, by rw [eW]; exact w6.1, fun i hi => ?_⟩, h2, by rw [h3 1 (by omega) (by omega), eP]; exact p2, fun i hi => ?_, by rw [h3 1 (by omega) (by omega), eW]; exact p4, fun i hi => ?_⟩
  · rw [eN] at hj
    obtain ⟨d1, d2, d3, d4, d5⟩ := w1.2.2 j hj
    rw [eA, eB, eC]
    refine ⟨d1, d2, d3, d4, ?_⟩
    by_cases e : j = k
    · subst e
      have : gX (gWall (mem 123) j v) j = v := by unfold gX gWall; rw [if_pos rfl]
      rw [this]; exact hv
    · have : gX (gWall (mem 123) k v) j = gX (mem 123) j := o _ (by omega)
      rw [this]; exact d5
  · rw [eN] at hj
    rw [eA, eB]
    exact w3 j hj
  · rw [eP] at hi
    obtain ⟨a1, a2, a3⟩ := hi3 i
    have := w5 i hi
    unfold gWk at this ⊢
    rw [a1, a2, a3, eN, eA, eB]
    exact this
  · rw [eW] at hi
    rw [o (74 + i) (by omega), eN]
    exact w6.2 i hi
  · rw [eP] at hi
    obtain ⟨a1, a2, a3⟩ := hi3 i
    rw [a1, a2, a3]
    have := p3 i hi
    unfold Ws at this ⊢
    rw [h3 (1 + 8 + i) (by omega) (by omega)]
    exact this
  · rw [eW] at hi
    rw [o (74 + i) (by omega), h3 (1 + 13) (by omega) (by omega)]
    exact p5 i hi
/-- promise wall -/
theorem t_wall {a v : Int} (hv : v = 0 ∨ v = 1) (hI : Ipal mem) (hR : ∀ m', Ipal m' → (∀ k, k ≠ 123 → (k < 2 ∨ 7 < k) → m' k = mem k) → (∀ i, 56 ≤ i → m' 123 i = mem 123 i) → R m') : zC (d + 3) K_Od_wall [(2, Int.ofNat 0), (0, a), (0, v)] mem (fun r1 m1 => zC (d + 3) K_Mo_wall [(2, Int.ofNat 122), (0, a), (0, v)] m1 (fun r2 m2 => (r1 = r2 → R m2) ∧ (r1 ≠ r2 → S m2))) := by
  obtain ⟨⟨w1, w2, w3, w4, w5, w6⟩, hP⟩ := id hI
  have hN := w1.1
  have hn0 : mem 2 2 = gN (mem 123) := hP.1.2.2.1
  have same : ∀ x : Int, (x = x → R mem) ∧ (x ≠ x → S mem) := fun x => ⟨fun _ => hR mem hI (fun _ _ _ => rfl) (fun _ _ => rfl), fun q => absurd rfl q⟩
  refine v_Od_wall (c_Ho_hasDoor (d := d + 1) (Or.inl rfl) (fun c => ⟨fun _ => ?_, fun q => absurd q (by decide)⟩) (fun c => ⟨fun q => absurd rfl q, fun _ => ?_⟩))
  · rw [hn0] at c
    obtain ⟨-, -, -, -, hX⟩ := w1.2.2 a.toNat (by omega)
    have i1 : zmul 4 a = 4 * a := zmul_n (by unfold zI; omega)
    have i2 : zadd (4 * a) 3 = 4 * a + 3 := zadd_n (by unfold zI; omega)
    have key : ∀ x : Int, x = gX (mem 123) a.toNat → ∀ m1 : zMem, Hs m1 2 (gWall (mem 123) a.toNat v) (mem 122 1) → (∀ k, k < 2 ∨ 2 + 5 < k → m1 k = mem k) → zC (d + 3) K_Mo_wall [(2, Int.ofNat 122), (0, a), (0, v)] m1 (fun r2 m2 => (x = r2 → R m2) ∧ (x ≠ r2 → S m2)) := by
      intro x hx m1 hH hf
      have q3 : m1 123 = mem 123 := hf 123 (by omega)
      refine v_Mo_wall (c_Mo_isDoor (d := d) (by rw [q3]; exact hN.1) (fun c3 => ⟨fun _ => ?_, fun q => absurd q (by decide)⟩) (fun c3 => absurd (by rw [q3]; exact c) c3))
      rw [i1, i2, show (4 * a + 3).toNat = 4 * a.toNat + 3 by omega]
      have fin : ∀ m2 : zMem, m2 = zup m1 123 (4 * a.toNat + 3) v → R m2 := by
        intro m2 f2
        have h123 : m2 123 = gWall (mem 123) a.toNat v := by
          funext i
          unfold gWall
          by_cases e : i = 4 * a.toNat + 3
          · rw [if_pos e, f2, e, zup_e]
          · rw [if_neg e, f2, zup_j e, q3]
        have hfr : ∀ k, k ≠ 123 → m2 k = m1 k := fun k hk => by funext i; rw [f2, zup_k hk]
        have hH2 : Hs m2 2 (gWall (mem 123) a.toNat v) (mem 122 1) := by
          unfold Hs at hH ⊢
          rw [hfr 2 (by omega), hfr (2 + 1) (by omega), hfr (2 + 2) (by omega), hfr (2 + 3) (by omega), hfr (2 + 4) (by omega), hfr (2 + 5) (by omega)]
          exact hH
        refine hR m2 (hI.wall (k := a.toNat) (by omega) hv h123 hH2 (fun k k1 k2 => by rw [hfr k k1, hf k (by omega)])) (fun k k1 k2 => by rw [hfr k k1, hf k (by omega)]) (fun i hi => ?_)
        rw [h123]
        unfold gWall
        rw [if_neg (by omega)]
      refine ⟨by omega, fun x2 e2 => ⟨fun q => ⟨by omega, fun m2 f2 => ⟨fun _ => fin m2 (by rw [q]; exact f2), fun z => absurd ?_ z⟩⟩, fun q => ⟨by omega, fun m2 f2 => ⟨fun _ => fin m2 (by rw [hv.resolve_left q]; exact f2), fun z => absurd ?_ z⟩⟩⟩⟩
      · rw [hx, e2, q3]; rfl
      · rw [hx, e2, q3]; rfl
    refine c_Ho_isWalled (d := d + 1) (Or.inl rfl) hP.1 (by omega) c (fun q => ⟨fun z => absurd z (by decide), fun _ => ?_⟩) (fun q => ⟨fun _ => ?_, fun z => absurd rfl z⟩)
    · exact c_Ho_setWalled (d := d + 1) (Or.inl rfl) hP.1 w1 c hv (fun m1 hH hf => key 1 q.symm m1 hH hf)
    · exact c_Ho_setWalled (d := d + 1) (Or.inl rfl) hP.1 w1 c hv (fun m1 hH hf => key 0 (hX.resolve_right q).symm m1 hH hf)
  · rw [hn0] at c
    exact v_Mo_wall (c_Mo_isDoor (d := d) hN.1 (fun c3 => absurd c3 c) (fun c3 => ⟨fun q => absurd rfl q, fun _ => same _⟩))
end
