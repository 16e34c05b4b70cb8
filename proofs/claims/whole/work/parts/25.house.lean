section
variable {d h : Nat} {mem : zMem} {g : zPg} {rm : Int} {Q : Int → zMem → Prop}
def gWall (g : zPg) (k : Nat) (v : Int) : zPg := fun i => if i = 4 * k + 3 then v else g i
theorem gWall_spec {k : Nat} {v : Int} (hk : k < 14) : gN (gWall g k v) = gN g ∧ gL (gWall g k v) = gL g ∧ ∀ j : Nat, gA (gWall g k v) j = gA g j ∧ gB (gWall g k v) j = gB g j ∧ gC (gWall g k v) j = gC g j ∧ gX (gWall g k v) j = if j = k then v else gX g j := by
  unfold gN gL gA gB gC gX gWall
  refine ⟨if_neg (by omega), if_neg (by omega), fun j => ⟨if_neg (by omega), if_neg (by omega), if_neg (by omega), ?_⟩⟩
  by_cases hj : j = k
  · subst hj; rw [if_pos rfl, if_pos rfl]
  · rw [if_neg (by omega), if_neg hj]
theorem gWall_Do {k : Nat} {v : Int} (hD : gDo g) (hk : k < 14) (hv : v = 0 ∨ v = 1) : gDo (gWall g k v) := by
  obtain ⟨e1, e2, e3⟩ := gWall_spec (g := g) (v := v) hk
  obtain ⟨h1, h2, h3⟩ := hD
  refine ⟨by rw [e1]; exact h1, by rw [e2]; exact h2, fun j hj => ?_⟩
  rw [e1] at hj
  obtain ⟨q1, q2, q3, q4⟩ := e3 j
  obtain ⟨p1, p2, p3, p4, p5⟩ := h3 j hj
  rw [q1, q2, q3, q4]
  refine ⟨p1, p2, p3, p4, ?_⟩
  split <;> assumption
theorem zB_put {x k : Int} {j : Nat} (hj : j < 32) (h0 : 0 ≤ k) (h : k < 32) : (zB (zor x (zshl 1 k)) j ↔ zB x j ∨ (j : Int) = k) ∧ (zB (zand x (zxor (zshl 1 k) (-1))) j ↔ zB x j ∧ (j : Int) ≠ k) := by
  rw [zB_or, zB_and, zB_not _ hj, zB_shl h0 h]
  exact ⟨Iff.rfl, Iff.rfl⟩
theorem c_Ho_setWalled (hh : zHo h) (hH : Hs mem h g rm) (hD : gDo g) {k v : Int} (hk : 0 ≤ k ∧ k < gN g) (hv : v = 0 ∨ v = 1)
    (hQ : ∀ m', Hs m' h (gWall g k.toNat v) rm → (∀ k, k < h ∨ h + 5 < k → m' k = mem k) → Q 0 m') : zC (d + 1) K_Ho_setWalled [(2, Int.ofNat h), (0, k), (0, v)] mem Q := by
  obtain ⟨h0, h1, h2, h3, h4, h5, h6⟩ := hH
  obtain ⟨hN, hL, hd⟩ := hD
  obtain ⟨a1, a2, -⟩ := h4 k.toNat (by omega)
  obtain ⟨da, db, dab, -, dx⟩ := hd k.toNat (by omega)
  obtain ⟨q1, q2, q3⟩ := gWall_spec (g := g) (k := k.toNat) (v := v) (by omega)
  refine v_Ho_setWalled hh (fun x1 e1 => ⟨fun c m1 f1 => ?_, fun c m1 f1 => ?_⟩)
  · have s1 : m1 (h + 1) k.toNat = gA g k.toNat := by rw [f1, zup_k (by omega), a1]
    refine ⟨by omega, by omega, by omega, fun m2 f2 => ?_⟩
    rw [s1] at f2
    have s2 : m2 (h + 2) k.toNat = gB g k.toNat := by rw [f2, zup_k (by omega), f1, zup_k (by omega), a2]
    refine ⟨by omega, by omega, by omega, fun m3 f3 => ?_⟩
    rw [s2] at f3
    rcases hv with rfl | rfl
    · refine hQ m3 ⟨?_, ?_, ?_, ?_, ?_, ?_, ?_⟩ ?_
      · rw [f3, zup_k (by omega), f2, zup_k (by omega), f1, zup_j (by omega), h0]
      · rw [f3, zup_k (by omega), f2, zup_k (by omega), f1, zup_j (by omega), h1, q2]
      · rw [f3, zup_k (by omega), f2, zup_k (by omega), f1, zup_j (by omega), h2, q1]
      · intro j hj
        rw [f3, zup_k (by omega), f2, zup_k (by omega), f1, zup_e, e1, (zB_put hj hk.1 (by omega)).2, h3 j hj, q1, (q3 j).2.2.2]
        split <;> omega
      · intro j hj
        rw [q1] at hj
        rw [(q3 j).1, (q3 j).2.1, (q3 j).2.2.1, f3, zup_k (by omega), zup_k (by omega), zup_k (by omega), f2, zup_k (by omega), zup_k (by omega), zup_k (by omega), f1, zup_k (by omega), zup_k (by omega), zup_k (by omega)]
        exact h4 j hj
      · intro r hr j hj
        have hg : gO (gWall g k.toNat 0) r j ↔ (gO g r j ∨ ((j : Int) = k ∧ (gA g j = r ∨ gB g j = r))) := by
          unfold gO
          rw [q1, (q3 j).1, (q3 j).2.1, (q3 j).2.2.2]
          split <;> omega
        have o1 := h5 r hr j hj
        have b1 : ∀ x : Nat, m1 (h + 4) x = mem (h + 4) x := fun x => by rw [f1, zup_k (by omega)]
        rw [hg, f3, zup_at]
        by_cases hrb : (r : Int) = gB g k.toNat
        · rw [if_pos ⟨rfl, by omega⟩, f2, zup_j (by omega), b1, e1, (zB_put hj hk.1 (by omega)).1, show (gB g k.toNat).toNat = r by omega, o1]
          have : (j : Int) = k → gB g j = r := fun q => by rw [show j = k.toNat by omega]; omega
          unfold gO
          omega
        · rw [if_neg (fun q => hrb (by omega)), f2, zup_at]
          by_cases hra : (r : Int) = gA g k.toNat
          · rw [if_pos ⟨rfl, by omega⟩, b1, e1, (zB_put hj hk.1 (by omega)).1, show (gA g k.toNat).toNat = r by omega, o1]
            have : (j : Int) = k → gA g j = r := fun q => by rw [show j = k.toNat by omega]; omega
            unfold gO
            omega
          · rw [if_neg (fun q => hra (by omega)), b1, o1]
            have : (j : Int) = k → gA g j ≠ r ∧ gB g j ≠ r := fun q => by rw [show j = k.toNat by omega]; omega
            unfold gO
            omega
      · intro t ht j hj
        rw [q1, (q3 j).2.2.1, f3, zup_k (by omega), f2, zup_k (by omega), f1, zup_k (by omega)]
        exact h6 t ht j hj
      · intro x hx
        funext j
        rw [f3, zup_k (by omega), f2, zup_k (by omega), f1, zup_k (by omega)]
    · exact absurd c (by decide)
  · have s1 : m1 (h + 1) k.toNat = gA g k.toNat := by rw [f1, zup_k (by omega), a1]
    refine ⟨by omega, by omega, by omega, fun m2 f2 => ?_⟩
    rw [s1] at f2
    have s2 : m2 (h + 2) k.toNat = gB g k.toNat := by rw [f2, zup_k (by omega), f1, zup_k (by omega), a2]
    refine ⟨by omega, by omega, by omega, fun m3 f3 => ?_⟩
    rw [s2] at f3
    rcases hv with rfl | rfl
    · exact absurd rfl c
    · refine hQ m3 ⟨?_, ?_, ?_, ?_, ?_, ?_, ?_⟩ ?_
      · rw [f3, zup_k (by omega), f2, zup_k (by omega), f1, zup_j (by omega), h0]
      · rw [f3, zup_k (by omega), f2, zup_k (by omega), f1, zup_j (by omega), h1, q2]
      · rw [f3, zup_k (by omega), f2, zup_k (by omega), f1, zup_j (by omega), h2, q1]
      · intro j hj
        rw [f3, zup_k (by omega), f2, zup_k (by omega), f1, zup_e, e1, (zB_put hj hk.1 (by omega)).1, h3 j hj, q1, (q3 j).2.2.2]
        split <;> omega
      · intro j hj
        rw [q1] at hj
        rw [(q3 j).1, (q3 j).2.1, (q3 j).2.2.1, f3, zup_k (by omega), zup_k (by omega), zup_k (by omega), f2, zup_k (by omega), zup_k (by omega), zup_k (by omega), f1, zup_k (by omega), zup_k (by omega), zup_k (by omega)]
        exact h4 j hj
      · intro r hr j hj
        have hg : gO (gWall g k.toNat 1) r j ↔ (gO g r j ∧ (j : Int) ≠ k) := by
          unfold gO
          rw [q1, (q3 j).1, (q3 j).2.1, (q3 j).2.2.2]
          split <;> omega
        have o1 := h5 r hr j hj
        have b1 : ∀ x : Nat, m1 (h + 4) x = mem (h + 4) x := fun x => by rw [f1, zup_k (by omega)]
        rw [hg, f3, zup_at]
        by_cases hrb : (r : Int) = gB g k.toNat
        · rw [if_pos ⟨rfl, by omega⟩, f2, zup_j (by omega), b1, e1, (zB_put hj hk.1 (by omega)).2, show (gB g k.toNat).toNat = r by omega, o1]
        · rw [if_neg (fun q => hrb (by omega)), f2, zup_at]
          by_cases hra : (r : Int) = gA g k.toNat
          · rw [if_pos ⟨rfl, by omega⟩, b1, e1, (zB_put hj hk.1 (by omega)).2, show (gA g k.toNat).toNat = r by omega, o1]
          · rw [if_neg (fun q => hra (by omega)), b1, o1]
            have : (j : Int) = k → gA g j ≠ r ∧ gB g j ≠ r := fun q => by rw [show j = k.toNat by omega]; omega
            unfold gO
            omega
      · intro t ht j hj
        rw [q1, (q3 j).2.2.1, f3, zup_k (by omega), f2, zup_k (by omega), f1, zup_k (by omega)]
        exact h6 t ht j hj
      · intro x hx
        funext j
        rw [f3, zup_k (by omega), f2, zup_k (by omega), f1, zup_k (by omega)]
/-- a page without its last door -/
def gPop (g : zPg) : zPg := fun i => if i = 56 then gN g - 1 else g i
theorem gPop_spec : gN (gPop g) = gN g - 1 ∧ gL (gPop g) = gL g ∧ ∀ j : Nat, j < 14 → gA (gPop g) j = gA g j ∧ gB (gPop g) j = gB g j ∧ gC (gPop g) j = gC g j ∧ gX (gPop g) j = gX g j := by
  unfold gL gA gB gC gX gPop
  refine ⟨by show (if (56 : Nat) = 56 then gN g - 1 else g 56) = _; rw [if_pos rfl], if_neg (by omega), fun j hj => ⟨if_neg (by omega), if_neg (by omega), if_neg (by omega), if_neg (by omega)⟩⟩
theorem c_Ho_dropLatest (hh : zHo h) (hH : Hs mem h g rm) (hD : gDo g) (hn : 0 < gN g) (hx : gX g (gN g - 1).toNat = 0)
    (hQ : ∀ m', Hs m' h (gPop g) rm → (∀ k, k < h ∨ h + 5 < k → m' k = mem k) → Q 0 m') : zC (d + 1) K_Ho_dropLatest [(2, Int.ofNat h)] mem Q := by
  obtain ⟨h0, h1, h2, h3, h4, h5, h6⟩ := hH
  obtain ⟨hN, hL, hd⟩ := hD
  obtain ⟨a1, a2, a3⟩ := h4 (gN g - 1).toNat (by omega)
  obtain ⟨da, db, dab, dc, dx⟩ := hd (gN g - 1).toNat (by omega)
  obtain ⟨q1, q2, q3⟩ := gPop_spec (g := g)
  refine v_Ho_dropLatest hh ⟨fun c m1 f1 x1 e1 => ?_, fun c => by omega⟩
  rw [h2, zsub_n (by unfold zI; omega)] at f1
  have s0 : m1 h 2 = gN g - 1 := by rw [f1, zup_e]
  have s1 : m1 (h + 1) (gN g - 1).toNat = gA g (gN g - 1).toNat := by rw [f1, zup_k (by omega), a1]
  rw [s0] at e1
  rw [s0, s1]
  refine ⟨by omega, by omega, by omega, fun m2 f2 => ?_⟩
  have t0 : m2 h 2 = gN g - 1 := by rw [f2, zup_k (by omega), s0]
  have t1 : m2 (h + 2) (gN g - 1).toNat = gB g (gN g - 1).toNat := by rw [f2, zup_k (by omega), f1, zup_k (by omega), a2]
  rw [t0, t1]
  refine ⟨by omega, by omega, by omega, fun m3 f3 => ?_⟩
  have u0 : m3 h 2 = gN g - 1 := by rw [f3, zup_k (by omega), t0]
  have u1 : m3 (h + 3) (gN g - 1).toNat = gC g (gN g - 1).toNat := by rw [f3, zup_k (by omega), f2, zup_k (by omega), f1, zup_k (by omega), a3]
  rw [u0, u1]
  refine ⟨by omega, by omega, by omega, fun m4 f4 => ?_⟩
  have b1 : ∀ x : Nat, m1 (h + 4) x = mem (h + 4) x := fun x => by rw [f1, zup_k (by omega)]
  have b3 : ∀ x : Nat, m3 (h + 5) x = mem (h + 5) x := fun x => by rw [f3, zup_k (by omega), f2, zup_k (by omega), f1, zup_k (by omega)]
  refine hQ m4 ⟨?_, ?_, ?_, ?_, ?_, ?_, ?_⟩ ?_
  · rw [f4, zup_k (by omega), f3, zup_k (by omega), f2, zup_k (by omega), f1, zup_j (by omega), h0]
  · rw [f4, zup_k (by omega), f3, zup_k (by omega), f2, zup_k (by omega), f1, zup_j (by omega), h1, q2]
  · rw [f4, zup_k (by omega), f3, zup_k (by omega), f2, zup_k (by omega), f1, zup_e, q1]
  · intro j hj
    rw [f4, zup_k (by omega), f3, zup_k (by omega), f2, zup_k (by omega), f1, zup_j (by omega), h3 j hj, q1]
    rcases Nat.lt_or_ge j 14 with hj14 | hj14
    · rw [(q3 j hj14).2.2.2]
      have : (j : Int) = gN g - 1 → gX g j = 0 := fun q => by rw [← hx]; congr 1; omega
      omega
    · omega
  · intro j hj
    rw [q1] at hj
    obtain ⟨p1, p2, p3, p4⟩ := q3 j (by omega)
    rw [p1, p2, p3, f4, zup_k (by omega), zup_k (by omega), zup_k (by omega), f3, zup_k (by omega), zup_k (by omega), zup_k (by omega), f2, zup_k (by omega), zup_k (by omega), zup_k (by omega), f1, zup_k (by omega), zup_k (by omega), zup_k (by omega)]
    exact h4 j (by omega)
  · intro r hr j hj
    have hg : gO (gPop g) r j ↔ (gO g r j ∧ (j : Int) ≠ gN g - 1) := by
      unfold gO
      rw [q1]
      rcases Nat.lt_or_ge j 14 with hj14 | hj14
      · obtain ⟨p1, p2, p3, p4⟩ := q3 j hj14
        rw [p1, p2, p4]
        omega
      · omega
    have o1 := h5 r hr j hj
    rw [hg, f4, zup_k (by omega), f3, zup_at]
    by_cases hrb : (r : Int) = gB g (gN g - 1).toNat
    · rw [if_pos ⟨rfl, by omega⟩, f2, zup_j (by omega), b1, e1, (zB_put hj (by omega) (by omega)).2, show (gB g (gN g - 1).toNat).toNat = r by omega, o1]
    · rw [if_neg (fun q => hrb (by omega)), f2, zup_at]
      by_cases hra : (r : Int) = gA g (gN g - 1).toNat
      · rw [if_pos ⟨rfl, by omega⟩, b1, e1, (zB_put hj (by omega) (by omega)).2, show (gA g (gN g - 1).toNat).toNat = r by omega, o1]
      · rw [if_neg (fun q => hra (by omega)), b1, o1]
        have : (j : Int) = gN g - 1 → gA g j ≠ r ∧ gB g j ≠ r := fun q => by rw [show j = (gN g - 1).toNat by omega]; omega
        unfold gO
        omega
  · intro t ht j hj
    have hg : ((j : Int) < gN (gPop g) ∧ gC (gPop g) j = t) ↔ (((j : Int) < gN g ∧ gC g j = t) ∧ (j : Int) ≠ gN g - 1) := by
      rw [q1]
      rcases Nat.lt_or_ge j 14 with hj14 | hj14
      · obtain ⟨p1, p2, p3, p4⟩ := q3 j hj14
        rw [p3]
        omega
      · omega
    have o1 := h6 t ht j hj
    rw [hg, f4, zup_at]
    by_cases htc : (t : Int) = gC g (gN g - 1).toNat
    · rw [if_pos ⟨rfl, by omega⟩, b3, e1, (zB_put hj (by omega) (by omega)).2, show (gC g (gN g - 1).toNat).toNat = t by omega, o1]
    · rw [if_neg (fun q => htc (by omega)), b3, o1]
      have : (j : Int) = gN g - 1 → gC g j ≠ t := fun q => by rw [show j = (gN g - 1).toNat by omega]; omega
      omega
  · intro x hx
    funext j
    rw [f4, zup_k (by omega), f3, zup_k (by omega), f2, zup_k (by omega), f1, zup_k (by omega)]
end
