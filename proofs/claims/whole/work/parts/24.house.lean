section
variable {d h : Nat} {mem : zMem} {g : zPg} {rm : Int} {Q : Int → zMem → Prop}
theorem zup_at (m : zMem) (k j : Nat) (v : Int) (a i : Nat) : zup m k j v a i = if a = k ∧ i = j then v else m a i := rfl
theorem zup_k {m : zMem} {k j : Nat} {v : Int} {a i : Nat} (h : a ≠ k) : zup m k j v a i = m a i := by rw [zup_at, if_neg (fun q => h q.1)]
theorem zup_j {m : zMem} {k j : Nat} {v : Int} {a i : Nat} (h : i ≠ j) : zup m k j v a i = m a i := by rw [zup_at, if_neg (fun q => h q.2)]
theorem zup_e {m : zMem} {k j : Nat} {v : Int} : zup m k j v k j = v := by rw [zup_at, if_pos ⟨rfl, rfl⟩]
theorem c_Ho_beyond (hh : zHo h) (hH : Hs mem h g rm) (hN : gN g ≤ 14) {k r : Int} (hk : 0 ≤ k ∧ k < gN g) (hQ : Q (if gA g k.toNat = r then gB g k.toNat else gA g k.toNat) mem) : zC (d + 1) K_Ho_beyond [(2, Int.ofNat h), (0, k), (0, r)] mem Q := by
  obtain ⟨e1, e2, -⟩ := hH.2.2.2.2.1 k.toNat (by omega)
  refine v_Ho_beyond hh ⟨by omega, fun c => ⟨by omega, ?_⟩, fun c => ⟨by omega, ?_⟩⟩
  · rw [e1] at c ⊢; rw [if_neg c] at hQ; exact hQ
  · rw [e1] at c; rw [if_pos c] at hQ; rw [e2]; exact hQ
theorem c_Ho_sideAt (hh : zHo h) (hH : Hs mem h g rm) (hN : gN g ≤ 14) {k r : Int} (hk : 0 ≤ k ∧ k < gN g) (hQ : Q (if gA g k.toNat = r then 2 * k else 2 * k + 1) mem) : zC (d + 1) K_Ho_sideAt [(2, Int.ofNat h), (0, k), (0, r)] mem Q := by
  obtain ⟨e1, e2, -⟩ := hH.2.2.2.2.1 k.toNat (by omega)
  have h1 : zmul 2 k = 2 * k := zmul_n (by unfold zI; omega)
  have h2 : zadd (2 * k) 1 = 2 * k + 1 := zadd_n (by unfold zI; omega)
  refine v_Ho_sideAt hh ⟨by omega, fun c => ?_, fun c => ?_⟩
  · rw [e1] at c; rw [if_neg c] at hQ; rw [h1, h2]; exact hQ
  · rw [e1] at c; rw [if_pos c] at hQ; rw [h1]; exact hQ
theorem c_Ho_sideBeyond (hh : zHo h) (hH : Hs mem h g rm) (hN : gN g ≤ 14) {k r : Int} (hk : 0 ≤ k ∧ k < gN g) (hQ : Q (if gA g k.toNat = r then 2 * k + 1 else 2 * k) mem) : zC (d + 1) K_Ho_sideBeyond [(2, Int.ofNat h), (0, k), (0, r)] mem Q := by
  obtain ⟨e1, e2, -⟩ := hH.2.2.2.2.1 k.toNat (by omega)
  have h1 : zmul 2 k = 2 * k := zmul_n (by unfold zI; omega)
  have h2 : zadd (2 * k) 1 = 2 * k + 1 := zadd_n (by unfold zI; omega)
  refine v_Ho_sideBeyond hh ⟨by omega, fun c => ?_, fun c => ?_⟩
  · rw [e1] at c; rw [if_neg c] at hQ; rw [h1]; exact hQ
  · rw [e1] at c; rw [if_pos c] at hQ; rw [h1, h2]; exact hQ
theorem c_Ho_isOf (hh : zHo h) (hH : Hs mem h g rm) (hN : gN g ≤ 14) {k r : Int} (hk : 0 ≤ k ∧ k < gN g) (hQ1 : gA g k.toNat = r ∨ gB g k.toNat = r → Q 1 mem) (hQ0 : ¬ (gA g k.toNat = r ∨ gB g k.toNat = r) → Q 0 mem) : zC (d + 1) K_Ho_isOf [(2, Int.ofNat h), (0, k), (0, r)] mem Q := by
  obtain ⟨e1, e2, -⟩ := hH.2.2.2.2.1 k.toNat (by omega)
  refine v_Ho_isOf hh ⟨by omega, fun c => hQ1 (Or.inl (by rw [← e1]; exact c)), fun c => ⟨by omega, fun c2 => hQ0 ?_, fun c2 => hQ1 (Or.inr (by rw [← e2]; exact c2))⟩⟩
  rw [e1] at c; rw [e2] at c2; omega
theorem c_Ho_roomOfSide (hh : zHo h) (hH : Hs mem h g rm) (hN : gN g ≤ 14) {s : Int} (hs : 0 ≤ s ∧ s < 2 * gN g) (hQ : Q (if s % 2 = 0 then gA g (s / 2).toNat else gB g (s / 2).toNat) mem) : zC (d + 1) K_Ho_roomOfSide [(2, Int.ofNat h), (0, s)] mem Q := by
  have hzs : zI s := by unfold zI; omega
  have h1 : zand s 1 = s % 2 := zand1 hzs
  have h2 : zshr s 1 = s / 2 := by rw [zshr_n hzs (by omega) (by omega)]; rfl
  obtain ⟨e1, e2, -⟩ := hH.2.2.2.2.1 (s / 2).toNat (by omega)
  refine v_Ho_roomOfSide hh ⟨fun c => ?_, fun c => ?_⟩
  · rw [h2]; rw [h1] at c; rw [if_neg c] at hQ
    exact ⟨by omega, by rw [e2]; exact hQ⟩
  · rw [h2]; rw [h1] at c; rw [if_pos c] at hQ
    exact ⟨by omega, by rw [e1]; exact hQ⟩
/-- a page with a door more -/
def gAdd (g : zPg) (a b c : Int) : zPg := fun i => if i = 4 * (gN g).toNat then a else if i = 4 * (gN g).toNat + 1 then b else if i = 4 * (gN g).toNat + 2 then c else if i = 4 * (gN g).toNat + 3 then 0 else if i = 56 then gN g + 1 else g i
theorem gAdd_spec {a b c : Int} (hN : 0 ≤ gN g ∧ gN g < 14) : gN (gAdd g a b c) = gN g + 1 ∧ gL (gAdd g a b c) = gL g ∧ ∀ k : Nat, k < 14 → gA (gAdd g a b c) k = (if (k : Int) = gN g then a else gA g k) ∧ gB (gAdd g a b c) k = (if (k : Int) = gN g then b else gB g k) ∧ gC (gAdd g a b c) k = (if (k : Int) = gN g then c else gC g k) ∧ gX (gAdd g a b c) k = (if (k : Int) = gN g then 0 else gX g k) := by
  refine ⟨?_, ?_, fun k hk => ?_⟩
  · show gAdd g a b c 56 = _
    unfold gAdd
    rw [if_neg (by omega), if_neg (by omega), if_neg (by omega), if_neg (by omega), if_pos rfl]
  · show gAdd g a b c 73 = g 73
    unfold gAdd
    rw [if_neg (by omega), if_neg (by omega), if_neg (by omega), if_neg (by omega), if_neg (by omega)]
  · unfold gA gB gC gX gAdd
    by_cases h : (k : Int) = gN g
    · simp only [if_pos h]
      have e : (gN g).toNat = k := by omega
      rw [e]
      refine ⟨by simp, by simp, by simp, by simp⟩
    · simp only [if_neg h]
      refine ⟨?_, ?_, ?_, ?_⟩ <;> rw [if_neg (by omega), if_neg (by omega), if_neg (by omega), if_neg (by omega), if_neg (by omega)]
theorem gAdd_Do {a b c : Int} (hD : gDo g) (hN : gN g < 14) (ha : 0 ≤ a ∧ a < 10) (hb : 0 ≤ b ∧ b < 10) (hab : a ≠ b) (hc : 0 ≤ c ∧ c < 4) : gDo (gAdd g a b c) := by
  obtain ⟨h1, h2, h3⟩ := hD
  obtain ⟨e1, e2, e3⟩ := gAdd_spec (g := g) (a := a) (b := b) (c := c) ⟨h1.1, hN⟩
  refine ⟨by omega, by omega, fun k hk => ?_⟩
  obtain ⟨q1, q2, q3, q4⟩ := e3 k (by omega)
  rw [q1, q2, q3, q4]
  by_cases h : (k : Int) = gN g
  · simp only [if_pos h]
    exact ⟨ha, hb, hab, hc, by simp⟩
  · simp only [if_neg h]
    exact h3 k (by omega)
theorem c_Ho_add (hh : zHo h) (hH : Hs mem h g rm) (hD : gDo g) {a b c : Int} (ha : 0 ≤ a ∧ a < 10) (hb : 0 ≤ b ∧ b < 10) (hab : a ≠ b) (hc : 0 ≤ c ∧ c < 4)
    (hQ0 : gN g = 14 → Q 0 mem) (hQ1 : gN g < 14 → ∀ m', Hs m' h (gAdd g a b c) rm → (∀ k, k < h ∨ h + 5 < k → m' k = mem k) → Q 1 m') : zC (d + 1) K_Ho_add [(2, Int.ofNat h), (0, a), (0, b), (0, c)] mem Q := by
  obtain ⟨h0, h1, h2, h3, h4, h5, h6⟩ := hH
  have hN := hD.1
  refine v_Ho_add hh ⟨fun c1 => ⟨by omega, fun m1 e1 => ?_⟩, fun c1 => hQ0 (by omega)⟩
  have n1 : m1 h 2 = gN g := by rw [e1, zup_k (by omega), h2]
  refine ⟨by omega, fun m2 e2 => ?_⟩
  have n2 : m2 h 2 = gN g := by rw [e2, zup_k (by omega), n1]
  refine ⟨by omega, fun m3 e3 => ⟨ha, ha, fun m4 e4 => ?_⟩⟩
  have n3 : m3 h 2 = gN g := by rw [e3, zup_k (by omega), n2]
  have n4 : m4 h 2 = gN g := by rw [e4, zup_k (by omega), n3]
  refine ⟨hb, hb, fun m5 e5 => ?_⟩
  have n5 : m5 h 2 = gN g := by rw [e5, zup_k (by omega), n4]
  refine ⟨hc, hc, fun m6 e6 m7 e7 => ?_⟩
  have n6 : m6 h 2 = gN g := by rw [e6, zup_k (by omega), n5]
  rw [n6, zadd_n (by unfold zI; omega)] at e7
  rw [n5] at e6
  rw [n4] at e5
  rw [n3] at e4
  rw [n2] at e3
  rw [n1] at e2
  rw [h2] at e1
  obtain ⟨q1, q2, q3⟩ := gAdd_spec (g := g) (a := a) (b := b) (c := c) ⟨hN.1, by omega⟩
  refine hQ1 (by omega) m7 ⟨?_, ?_, ?_, ?_, ?_, ?_, ?_⟩ ?_
  · rw [e7, zup_j (by omega), e6, zup_k (by omega), e5, zup_k (by omega), e4, zup_k (by omega), e3, zup_k (by omega), e2, zup_k (by omega), e1, zup_k (by omega), h0]
  · rw [e7, zup_j (by omega), e6, zup_k (by omega), e5, zup_k (by omega), e4, zup_k (by omega), e3, zup_k (by omega), e2, zup_k (by omega), e1, zup_k (by omega), h1, q2]
  · rw [e7, zup_e, q1]
  · intro k hk
    rw [e7, zup_j (by omega), e6, zup_k (by omega), e5, zup_k (by omega), e4, zup_k (by omega), e3, zup_k (by omega), e2, zup_k (by omega), e1, zup_k (by omega), h3 k hk, q1]
    rcases Nat.lt_or_ge k 14 with hk14 | hk14
    · rw [(q3 k hk14).2.2.2]
      split <;> omega
    · omega
  · intro k hk
    obtain ⟨p1, p2, p3, p4⟩ := q3 k (by omega)
    rw [p1, p2, p3]
    refine ⟨?_, ?_, ?_⟩
    · rw [e7, zup_k (by omega), e6, zup_k (by omega), e5, zup_k (by omega), e4, zup_k (by omega), e3, zup_k (by omega), e2, zup_k (by omega), e1, zup_at]
      by_cases hkn : (k : Int) = gN g
      · rw [if_pos ⟨rfl, by omega⟩, if_pos hkn]
      · rw [if_neg (fun q => hkn (by omega)), if_neg hkn, (h4 k (by omega)).1]
    · rw [e7, zup_k (by omega), e6, zup_k (by omega), e5, zup_k (by omega), e4, zup_k (by omega), e3, zup_k (by omega), e2, zup_at]
      by_cases hkn : (k : Int) = gN g
      · rw [if_pos ⟨rfl, by omega⟩, if_pos hkn]
      · rw [if_neg (fun q => hkn (by omega)), if_neg hkn, e1, zup_k (by omega), (h4 k (by omega)).2.1]
    · rw [e7, zup_k (by omega), e6, zup_k (by omega), e5, zup_k (by omega), e4, zup_k (by omega), e3, zup_at]
      by_cases hkn : (k : Int) = gN g
      · rw [if_pos ⟨rfl, by omega⟩, if_pos hkn]
      · rw [if_neg (fun q => hkn (by omega)), if_neg hkn, e2, zup_k (by omega), e1, zup_k (by omega), (h4 k (by omega)).2.2]
  · intro r hr k hk
    have b3 : ∀ x : Nat, m3 (h + 4) x = mem (h + 4) x := fun x => by rw [e3, zup_k (by omega), e2, zup_k (by omega), e1, zup_k (by omega)]
    have o1 := h5 r hr k hk
    have hg : gO (gAdd g a b c) r k ↔ gO g r k ∨ ((k : Int) = gN g ∧ (a = r ∨ b = r)) := by
      unfold gO
      rw [q1]
      rcases Nat.lt_or_ge k 14 with hk14 | hk14
      · obtain ⟨p1, p2, p3, p4⟩ := q3 k hk14
        rw [p1, p2, p4]
        split <;> omega
      · omega
    rw [hg, e7, zup_k (by omega), e6, zup_k (by omega), e5, zup_at]
    by_cases hrb : (r : Int) = b
    · rw [if_pos ⟨rfl, by omega⟩, e4, zup_j (by omega), b3, zB_or, zB_shl (by omega) (by omega), show b.toNat = r by omega, o1]
      unfold gO
      omega
    · rw [if_neg (fun q => hrb (by omega)), e4, zup_at]
      by_cases hra : (r : Int) = a
      · rw [if_pos ⟨rfl, by omega⟩, b3, zB_or, zB_shl (by omega) (by omega), show a.toNat = r by omega, o1]
        unfold gO
        omega
      · rw [if_neg (fun q => hra (by omega)), b3, o1]
        unfold gO
        omega
  · intro t ht k hk
    have b5 : ∀ x : Nat, m5 (h + 5) x = mem (h + 5) x := fun x => by rw [e5, zup_k (by omega), e4, zup_k (by omega), e3, zup_k (by omega), e2, zup_k (by omega), e1, zup_k (by omega)]
    have o1 := h6 t ht k hk
    have hg : ((k : Int) < gN (gAdd g a b c) ∧ gC (gAdd g a b c) k = t) ↔ ((k : Int) < gN g ∧ gC g k = t) ∨ ((k : Int) = gN g ∧ c = t) := by
      rw [q1]
      rcases Nat.lt_or_ge k 14 with hk14 | hk14
      · obtain ⟨p1, p2, p3, p4⟩ := q3 k hk14
        rw [p3]
        split <;> omega
      · omega
    rw [hg, e7, zup_k (by omega), e6, zup_at]
    by_cases htc : (t : Int) = c
    · rw [if_pos ⟨rfl, by omega⟩, b5, zB_or, zB_shl (by omega) (by omega), show c.toNat = t by omega, o1]
      omega
    · rw [if_neg (fun q => htc (by omega)), b5, o1]
      omega
  · intro k hk
    funext j
    rw [e7, zup_k (by omega), e6, zup_k (by omega), e5, zup_k (by omega), e4, zup_k (by omega), e3, zup_k (by omega), e2, zup_k (by omega), e1, zup_k (by omega)]
end
