section
/-! palace: the class's text, its end. -/
variable {d w : Nat} {mem m m' m2 : zMem} {Q : Int → zMem → Prop} {b : Nat → Int} {L : Nat} {st : zPD} {g : zPg} {ws : Int}
/-- the walls that were told, for the doors below n -/
def gWn (g : zPg) (ws : Int) (n : Nat) : zPg := fun i => if i < 4 * n ∧ i % 4 = 3 then zand (zshr ws ((i / 4 : Nat) : Int)) 1 else g i
theorem gWn_0 : gWn g ws 0 = g := by
  funext i
  exact if_neg (fun z => by omega)
theorem gWn_s {n : Nat} : gWn g ws (n + 1) = gWall (gWn g ws n) n (zand (zshr ws (n : Int)) 1) := by
  funext i
  unfold gWall
  by_cases e : i = 4 * n + 3
  · rw [if_pos e]
    unfold gWn
    rw [if_pos (by omega), show i / 4 = n by omega]
  · rw [if_neg e]
    unfold gWn
    by_cases c : i < 4 * n ∧ i % 4 = 3
    · rw [if_pos c, if_pos (by omega)]
    · rw [if_neg c, if_neg (by omega)]
theorem gWn_z {n : Nat} (h : zand (zshr ws (n : Int)) 1 = 0) (hx : gX g n = 0) : gWn g ws (n + 1) = gWn g ws n := by
  rw [gWn_s]
  funext i
  unfold gWall
  by_cases e : i = 4 * n + 3
  · rw [if_pos e, h, e]
    unfold gWn
    rw [if_neg (by omega)]
    exact hx.symm
  · rw [if_neg e]
theorem gWn_at {n i : Nat} (h : ¬ (i < 4 * n ∧ i % 4 = 3)) : gWn g ws n i = g i := if_neg h
theorem gWn_Do {n : Nat} (hD : gDo g) (hI : zI ws) (hn : (n : Int) ≤ gN g) : gDo (gWn g ws n) := by
  induction n with
  | zero => rw [gWn_0]; exact hD
  | succ n ih =>
    rw [gWn_s]
    have := hD.1
    exact gWall_Do (ih (by omega)) (by omega) (zB_test01 hI)
/-- all rooms and doors that were named are there -/
def allF (st : zPD) : Prop := (∀ k : Nat, (k : Int) < gN st.1 → gA st.1 k < st.2.1 ∧ gB st.1 k < st.2.1) ∧ (∀ p : Nat, (p : Int) < gP st.1 → gR st.1 p < st.2.1) ∧ ∀ j : Nat, j < 14 → zB st.2.2.2.2 j → (j : Int) < gN st.1
theorem allF_ws (hW : pdW st) : st.2.2.2.2 < zshl 1 (gN st.1) ↔ ∀ j : Nat, j < 14 → zB st.2.2.2.2 j → (j : Int) < gN st.1 := by
  obtain ⟨x1, x2, x3, x4, x5, x6, x7, x8, x9⟩ := hW
  have hN := x1.1
  generalize st.2.2.2.2 = ws at *
  have key : zshl 1 (gN st.1) = 2 ^ (gN st.1).toNat := by
    have h : ∀ n : Nat, n < 15 → zshl 1 (n : Int) = 2 ^ n := by decide +kernel
    have := h (gN st.1).toNat (by omega)
    rw [show (((gN st.1).toNat : Nat) : Int) = gN st.1 by omega] at this
    exact this
  rw [key]
  constructor
  · intro h j hj hb
    refine Classical.byContradiction fun q => ?_
    exact zB_of_lt x9.1 (n := (gN st.1).toNat) (by omega) h (k := j) (by omega) hb
  · intro h
    refine (zB_small (x := ws) (by unfold zI; omega) (n := (gN st.1).toNat) (by omega) (fun k k1 k2 q => ?_)).2
    by_cases c : k < 14
    · have := h k c q
      omega
    · exact zB_of_lt x9.1 (n := 14) (by omega) (by omega) (by omega) q
theorem zand01 {x : Int} (h : x = 0 ∨ x = 1) : zand x 0 = 0 ∧ zand x 1 = x := by
  rcases h with rfl | rfl <;> exact ⟨by decide, by decide⟩
theorem c_Ta_closeText (hd : cD mem st) (hW : pdW st) (h4 : mem 53 4 = 0) (h2 : mem 53 2 = L)
    (hE : ¬ allF st → ∀ m' : zMem, m' 53 4 = 6 → m' 53 5 = (L : Int) → eFr mem m' → Q 0 m')
    (hK : allF st → ∀ m' : zMem, Ps m' 55 (gWn st.1 st.2.2.2.2 (gN st.1).toNat) st.2.1 → m' 53 = mem 53 → eFr mem m' → Q 1 m') : zC (d + 2) K_Ta_closeText [(2, Int.ofNat 53)] mem Q := by
  obtain ⟨d1, d2, d3, d4⟩ := id hd
  obtain ⟨x1, x2, x3, x4, x5, x6, x7, x8, x9⟩ := id hW
  have hN := x1.1
  have e562 : mem 56 2 = gN st.1 := d1.1.2.2.1
  have e560 : mem 56 0 = st.2.1 := d1.1.1
  have e552 : mem 55 2 = gP st.1 := d1.2.1
  have hI : zI st.2.2.2.2 := by unfold zI; omega
  -- the walls
  have last : allF st → ∀ (n k : Nat) (m : zMem), k + n = (gN st.1).toNat → Hs m 56 (gWn st.1 st.2.2.2.2 k) st.2.1 → (∀ x, x < 56 ∨ 61 < x → m x = mem x) → zG (d + 2) M_Ta_closeText 132 [(2, Int.ofNat 53), (2, Int.ofNat 56), (9, 0), (0, (k : Int))] [] m Q := by
    intro ha n
    induction n with
    | zero =>
      intro k m hk hH hf
      have eN : m 56 2 = gN st.1 := by rw [hH.2.2.1]; exact gWn_at (by omega)
      refine v_Ta_closeText_132 ⟨fun _ => hK ha m ?_ (hf 53 (by omega)) ⟨fun x hx => hf x (by omega), by rw [hf 53 (by omega)]⟩, fun z => by omega⟩
      obtain ⟨y1, y2, y3, y4, y5⟩ := d1
      rw [show (gN st.1).toNat = k by omega]
      have e : ∀ i, 56 ≤ i → gWn st.1 st.2.2.2.2 k i = st.1 i := fun i hi => gWn_at (by omega)
      refine ⟨hH, ?_, fun p hp => ?_, ?_, fun p hp => ?_⟩
      · show m 55 2 = gWn st.1 st.2.2.2.2 k 72
        rw [hf 55 (by omega), e 72 (by omega)]; exact y2
      · have hp : (p : Int) < gWn st.1 st.2.2.2.2 k 72 := hp
        rw [e 72 (by omega)] at hp
        have hp : (p : Int) < gP st.1 := hp
        have := y3 p hp
        show Ws m (55 + 8 + p) (gWn st.1 st.2.2.2.2 k (57 + 3 * p)) (gWn st.1 st.2.2.2.2 k (58 + 3 * p)) (gWn st.1 st.2.2.2.2 k (59 + 3 * p))
        rw [e _ (by omega), e _ (by omega), e _ (by omega)]
        unfold Ws at this ⊢
        rw [hf _ (by omega)]
        exact this
      · show m 55 4 = gWn st.1 st.2.2.2.2 k 86
        rw [hf 55 (by omega), e 86 (by omega)]; exact y4
      · have hp : (p : Int) < gWn st.1 st.2.2.2.2 k 86 := hp
        rw [e 86 (by omega)] at hp
        have hp : (p : Int) < gW st.1 := hp
        omega
    | succ n ih =>
      intro k m hk hH hf
      have eN : m 56 2 = gN st.1 := by rw [hH.2.2.1]; exact gWn_at (by omega)
      have e12 : m 53 12 = st.2.2.2.2 := by rw [hf 53 (by omega), d4]
      refine v_Ta_closeText_132 ?_
      rw [eN, e12]
      refine ⟨fun z => by omega, fun _ => ⟨fun z x e => ?_, fun z => ?_⟩⟩
      · rw [za (by omega)] at e
        rw [e]
        exact ih (k + 1) m (by omega) (by rw [gWn_z z (x5 k (by omega))]; exact hH) hf
      · have h1 : zand (zshr st.2.2.2.2 (k : Int)) 1 = 1 := by
          rcases zB_test01 (d := (k : Int)) hI with q | q
          · exact absurd q z
          · exact q
        refine c_Ho_setWalled (d := d) (Or.inr (Or.inr (Or.inr rfl))) hH (gWn_Do x1 hI (by omega)) ⟨by omega, ?_⟩ (Or.inr rfl) (fun m1 hH1 hf1 x e => ?_)
        · have : gN (gWn st.1 st.2.2.2.2 k) = gN st.1 := gWn_at (by omega)
          omega
        · rw [za (by omega)] at e
          rw [e]
          refine ih (k + 1) m1 (by omega) ?_ (fun x hx => by rw [hf1 x (by omega), hf x hx])
          rw [gWn_s, h1]
          exact hH1
  -- the people
  have people : ∀ (n p : Nat), p + n = (gP st.1).toNat → ∀ l2 : Int, (l2 = 0 ∨ l2 = 1) → (l2 = 1 ↔ (st.2.2.2.2 < zshl 1 (gN st.1) ∧ ∀ k : Nat, (k : Int) < gN st.1 → gA st.1 k < st.2.1 ∧ gB st.1 k < st.2.1) ∧ ∀ j : Nat, j < p → gR st.1 j < st.2.1) → zG (d + 2) M_Ta_closeText 79 [(2, Int.ofNat 53), (2, Int.ofNat 56), (0, l2), (0, (p : Int))] [] mem Q := by
    intro n
    induction n with
    | zero =>
      intro p hp l2 h01 hl
      refine v_Ta_closeText_79 ?_
      rw [e552, h2]
      have hall : l2 = 1 ↔ allF st := by
        rw [hl, allF_ws hW]
        constructor
        · rintro ⟨⟨a1, a2⟩, a3⟩; exact ⟨a2, fun j hj => a3 j (by omega), a1⟩
        · rintro ⟨a1, a2, a3⟩; exact ⟨⟨a3, a1⟩, fun j hj => a2 j (by omega)⟩
      refine ⟨fun _ => ⟨fun z => last (hall.mp (by omega)) (gN st.1).toNat 0 mem (by omega) (by rw [gWn_0]; exact d1.1) (fun _ _ => rfl), fun z => ?_⟩, fun z => by omega⟩
      exact c_Ta_refuse (d := d) (fun m2 q1 q2 q3 q4 => ⟨Or.inl rfl, hE (fun q => by have := hall.mpr q; omega) m2 (q2 h4).1 (q2 h4).2 ⟨fun k hk => q3 k (by omega), q4 2 (by omega) (by omega)⟩⟩)
    | succ n ih =>
      intro p hp l2 h01 hl
      refine v_Ta_closeText_79 ?_
      obtain ⟨z1, z2⟩ := zrt62 (p := p) (by omega)
      have r0 : mem (63 + p) 0 = gR st.1 p := (d1.2.2.1 p (by omega)).1
      have r1 := (x6 p (by omega)).1
      rw [e552, Int.toNat_natCast, z1, r0]
      obtain ⟨b0, b1⟩ := zand01 h01
      refine ⟨fun z => by omega, fun _ => ⟨by omega, c_Ho_hasRoom (d := d) (Or.inr (Or.inr (Or.inr rfl))) (fun c x e x' e' => ?_) (fun c x e x' e' => ?_)⟩⟩
      · rw [za (by omega)] at e'
        rw [e', e, b1]
        refine ih (p + 1) (by omega) l2 h01 ?_
        rw [hl]
        constructor
        · rintro ⟨a1, a2⟩
          refine ⟨a1, fun j hj => ?_⟩
          by_cases q : j = p
          · rw [q]; omega
          · exact a2 j (by omega)
        · rintro ⟨a1, a2⟩; exact ⟨a1, fun j hj => a2 j (by omega)⟩
      · rw [za (by omega)] at e'
        rw [e', e, b0]
        refine ih (p + 1) (by omega) 0 (Or.inl rfl) ⟨fun q => absurd q (by decide), fun q => ?_⟩
        have := q.2 p (by omega)
        omega
  -- the doors
  have doors : ∀ (n k : Nat), k + n = (gN st.1).toNat → ∀ l2 : Int, (l2 = 0 ∨ l2 = 1) → (l2 = 1 ↔ st.2.2.2.2 < zshl 1 (gN st.1) ∧ ∀ j : Nat, j < k → gA st.1 j < st.2.1 ∧ gB st.1 j < st.2.1) → zG (d + 2) M_Ta_closeText 29 [(2, Int.ofNat 53), (2, Int.ofNat 56), (0, l2), (0, (k : Int))] [] mem Q := by
    intro n
    induction n with
    | zero =>
      intro k hk l2 h01 hl
      refine v_Ta_closeText_29 ?_
      rw [e562]
      refine ⟨fun _ => people (gP st.1).toNat 0 (by omega) l2 h01 ?_, fun z => by omega⟩
      rw [hl]
      constructor
      · rintro ⟨a1, a2⟩; exact ⟨⟨a1, fun j hj => a2 j (by omega)⟩, fun j hj => by omega⟩
      · rintro ⟨⟨a1, a2⟩, -⟩; exact ⟨a1, fun j hj => a2 j (by omega)⟩
    | succ n ih =>
      intro k hk l2 h01 hl
      refine v_Ta_closeText_29 ?_
      obtain ⟨r1, r2, -⟩ := d1.1.2.2.2.2.1 k (by omega)
      have r1 : mem 57 k = gA st.1 k := r1
      have r2 : mem 58 k = gB st.1 k := r2
      have hk2 := x1.2.2 k (by omega)
      rw [e562, Int.toNat_natCast, r1]
      obtain ⟨b0, b1⟩ := zand01 h01
      have bad : ¬ (gA st.1 k < st.2.1 ∧ gB st.1 k < st.2.1) → ∀ x : Int, x = zand l2 0 → ∀ x' : Int, x' = zadd (k : Int) 1 → zG (d + 2) M_Ta_closeText 29 [(2, Int.ofNat 53), (2, Int.ofNat 56), (0, x), (0, x')] [] mem Q := by
        intro c x e x' e'
        rw [za (by omega)] at e'
        rw [e', e, b0]
        exact ih (k + 1) (by omega) 0 (Or.inl rfl) ⟨fun q => absurd q (by decide), fun q => absurd (q.2 k (by omega)) c⟩
      refine ⟨fun z => by omega, fun _ => ⟨by omega, c_Ho_hasRoom (d := d) (Or.inr (Or.inr (Or.inr rfl))) (fun c => ⟨fun q => absurd q (by decide), fun _ => ⟨by omega, ?_⟩⟩) (fun c => ⟨fun _ => bad (by omega), fun q => absurd rfl q⟩)⟩⟩
      rw [r2]
      refine c_Ho_hasRoom (d := d) (Or.inr (Or.inr (Or.inr rfl))) (fun c2 => ⟨fun q => absurd q (by decide), fun _ x e x' e' => ?_⟩) (fun c => ⟨fun _ => bad (by omega), fun q => absurd rfl q⟩)
      rw [za (by omega)] at e'
      rw [e', e, b1]
      refine ih (k + 1) (by omega) l2 h01 ?_
      rw [hl]
      constructor
      · rintro ⟨a1, a2⟩
        refine ⟨a1, fun j hj => ?_⟩
        by_cases q : j = k
        · rw [q]; omega
        · exact a2 j (by omega)
      · rintro ⟨a1, a2⟩; exact ⟨a1, fun j hj => a2 j (by omega)⟩
  refine v_Ta_closeText ?_
  rw [e562, d4]
  refine ⟨fun c => doors (gN st.1).toNat 0 (by omega) 0 (Or.inl rfl) ⟨fun q => absurd q (by decide), fun q => ?_⟩, fun c => doors (gN st.1).toNat 0 (by omega) 1 (Or.inr rfl) ⟨fun _ => ⟨c, fun j hj => by omega⟩, fun _ => rfl⟩⟩
  have := q.1
  omega
end
