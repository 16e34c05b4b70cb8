section
variable {d w : Nat} {mem m m' m2 : zMem} {Q : Int → zMem → Prop} {R S : zMem → Prop} {g : zPg} {b : zBf} {rm pl r t u p : Int} {k s : Nat}
/-- the room at a side of a door -/
def gRm (g : zPg) (e : Int) : Int := if e % 2 = 0 then gA g (e / 2).toNat else gB g (e / 2).toNat
theorem pSd_at {e : Int} (hD : gDo g) (he : 0 ≤ e ∧ e < 2 * gN g) : pOK g (15 * e) ∧ pR g (15 * e) = gRm g e ∧ pL (15 * e) = e / 2 ∧ pB (15 * e) = -1 := by
  have hN := hD.1
  have e1 : 15 * e / 15 = e := by omega
  have e2 : 15 * e / 30 = e / 2 := by omega
  refine ⟨⟨by omega, by omega, fun q => by omega, fun _ => by omega⟩, ?_, ?_, ?_⟩
  · unfold pR gRm
    rw [e1, if_neg (by omega)]
    split
    · unfold gA; congr 1; omega
    · unfold gB; congr 1; omega
  · unfold pL
    rw [e1, e2, if_neg (by omega)]
  · unfold pB
    omega
theorem pSd_may {e : Int} (hD : gDo g) (he : 0 ≤ e ∧ e < 2 * gN g) (j : Nat) : pMay g (15 * e) j ↔ gMay g (gRm g e) (e / 2) (-1) j := by
  obtain ⟨-, h2, h3, h4⟩ := pSd_at hD he
  unfold pMay
  rw [h2, h3, h4]
theorem gMay_lt {l a : Int} {j : Nat} (hD : gDo g) (h : gMay g r l a j) : j < 32 := by
  have : (j : Int) < gN g := h.1.1
  have := hD.1
  omega
theorem gRm_O {e : Int} (he : 0 ≤ e ∧ e < 2 * gN g) (hx : gX g (e / 2).toNat = 0) : gO g (gRm g e) (e / 2).toNat := by
  refine ⟨by omega, hx, ?_⟩
  unfold gRm
  split
  · exact Or.inl rfl
  · exact Or.inr rfl
theorem gO_side (h : gO g r k) : ∃ e : Int, (0 ≤ e ∧ e < 2 * gN g) ∧ e / 2 = k ∧ gRm g e = r := by
  obtain ⟨h1, h2, h3⟩ := h
  unfold gRm
  rcases h3 with q | q
  · refine ⟨2 * k, by omega, by omega, ?_⟩
    rw [if_pos (by omega), show (2 * (k : Int) / 2).toNat = k by omega]
    exact q
  · refine ⟨2 * k + 1, by omega, by omega, ?_⟩
    rw [if_neg (by omega), show ((2 * (k : Int) + 1) / 2).toNat = k by omega]
    exact q
theorem c_Mo_isTrap {a s : Int} (hD : gDo (mem 123)) (ha : 0 ≤ a ∧ a < gN (mem 123)) (hs : 0 ≤ s ∧ s < 2) (hQ1 : (∀ j : Nat, ¬ pMay (mem 123) (15 * (2 * a + s)) j) → Q 1 mem) (hQ0 : ¬ (∀ j : Nat, ¬ pMay (mem 123) (15 * (2 * a + s)) j) → Q 0 mem) : zC (d + 5) K_Mo_isTrap [(2, Int.ofNat 122), (0, a), (0, s)] mem Q := by
  have hN := hD.1
  refine v_Mo_isTrap (c_Mo_placeOf (d := d + 3) (by omega) (by omega) (Or.inl rfl) hs ?_)
  have e : pMk 0 a (-4) s = 15 * (2 * a + s) := by
    unfold pMk
    rw [if_neg (by omega), if_pos rfl]
    omega
  rw [e]
  exact c_Mo_isLost (d := d) (pSd_at hD (by omega)).1 hD (fun h => ⟨Or.inr rfl, hQ1 h⟩) (fun h => ⟨Or.inl rfl, hQ0 h⟩)
theorem l_Od_life (hD : gDo g) (hH : Hs mem 2 g rm) (hrm : rm ≤ 10) (hQ : ∀ v, zI v → (∀ j : Nat, j < 32 → (zB v j ↔ (j : Int) < rm ∧ gFL g j)) → Q v mem) : ∀ (n : Nat) (v i : Int), 0 ≤ i → i ≤ rm → rm - i ≤ n → zI v → (∀ j : Nat, j < 32 → (zB v j ↔ (j : Int) < i ∧ gFL g j)) → zG (d + 3) M_Od_life 4 [(2, Int.ofNat 0), (0, v), (0, i)] [] mem Q := by
  have h0 := hH.1
  intro n
  induction n with
  | zero =>
    intro v i h1 h2 h3 hv hb
    refine v_Od_life_4 ⟨fun c => hQ v hv (by rw [show rm = i by omega]; exact hb), fun c => by omega⟩
  | succ n ih =>
    intro v i h1 h2 h3 hv hb
    refine v_Od_life_4 ⟨fun c => hQ v hv (by rw [show rm = i by omega]; exact hb), fun c => ?_⟩
    refine c_Ho_isForLife (d := d) (Or.inl rfl) hH hD ⟨h1, by omega⟩ (fun hf => ⟨fun q => absurd q (by decide), fun _ x3 e3 x4 e4 => ?_⟩) (fun hf => ⟨fun _ x2 e2 => ?_, fun q => absurd rfl q⟩)
    · rw [za (by omega)] at e4
      rw [e3, e4]
      exact ih _ (i + 1) (by omega) (by omega) (by omega) (zor_I _ _) (zB_step (P := fun j => gFL g j) h1 (by omega) hb hf)
    · rw [za (by omega)] at e2
      rw [e2]
      exact ih v (i + 1) (by omega) (by omega) (by omega) hv (zB_skip (P := fun j => gFL g j) hb hf)
theorem l_Mo_life (hD : gDo (mem 123)) (hQ : ∀ v, zI v → (∀ j : Nat, j < 32 → (zB v j ↔ ∃ e : Nat, (e : Int) < 2 * gN (mem 123) ∧ gX (mem 123) (e / 2) = 0 ∧ (∀ x : Nat, ¬ pMay (mem 123) (15 * (e : Int)) x) ∧ gRm (mem 123) e = j)) → Q v mem) : ∀ (n i : Nat) (v : Int), i + n = (2 * gN (mem 123)).toNat → zI v → (∀ j : Nat, j < 32 → (zB v j ↔ ∃ e : Nat, e < i ∧ gX (mem 123) (e / 2) = 0 ∧ (∀ x : Nat, ¬ pMay (mem 123) (15 * (e : Int)) x) ∧ gRm (mem 123) e = j)) → zG (d + 6) M_Mo_life 4 [(2, Int.ofNat 122), (0, v), (0, (i : Int))] [] mem Q := by
  have hN := hD.1
  have e56 : mem 123 56 = gN (mem 123) := rfl
  intro n
  induction n with
  | zero =>
    intro i v hi hv hb
    refine v_Mo_life_4 (c_Mo_doorMany (d := d + 4) ?_)
    rw [e56, zm (x := 2) (by omega)]
    refine ⟨fun c => hQ v hv (fun j hj => ?_), fun c => by omega⟩
    rw [hb j hj]
    constructor
    · rintro ⟨e, q, z⟩; exact ⟨e, by omega, z⟩
    · rintro ⟨e, q, z⟩; exact ⟨e, by omega, z⟩
  | succ n ih =>
    intro i v hi hv hb
    refine v_Mo_life_4 (c_Mo_doorMany (d := d + 4) ?_)
    rw [e56, zm (x := 2) (by omega)]
    refine ⟨fun c => by omega, fun c => ?_⟩
    rw [zd (by omega) (by omega), zr (by omega) (by omega), zm (by omega), za (x := 4 * ((i : Int) / 2)) (y := 3) (by omega), za (x := 4 * ((i : Int) / 2)) (by omega), show (4 * ((i : Int) / 2) + 3).toNat = 4 * (i / 2) + 3 by omega]
    have skip : ¬ (gX (mem 123) (i / 2) = 0 ∧ ∀ x : Nat, ¬ pMay (mem 123) (15 * (i : Int)) x) → zG (d + 6) M_Mo_life 4 [(2, Int.ofNat 122), (0, zor v 0), (0, (i : Int) + 1)] [] mem Q := by
      intro hno
      refine ih (i + 1) _ (by omega) (zor_I _ _) (fun j hj => ?_)
      rw [zB_or0, hb j hj]
      constructor
      · rintro ⟨e, q, z⟩; exact ⟨e, by omega, z⟩
      · rintro ⟨e, q, z1, z2, z3⟩
        by_cases he : e = i
        · rw [he] at z1 z2; exact absurd ⟨z1, z2⟩ hno
        · exact ⟨e, by omega, z1, z2, z3⟩
    refine ⟨by omega, fun c2 x2 e2 x3 e3 => ?_, fun c2 => ?_⟩
    · rw [za (by omega)] at e3
      rw [e2, e3]
      exact skip (fun q => c2 q.1)
    · refine c_Mo_isTrap (d := d) hD (by omega) (by omega) (fun hl => ⟨fun q => absurd q (by decide), fun _ => ⟨by omega, fun x7 e7 x8 e8 => ?_⟩⟩) (fun hl => ⟨fun _ x5 e5 x6 e6 => ?_, fun q => absurd rfl q⟩)
      · rw [show 2 * ((i : Int) / 2) + (i : Int) % 2 = (i : Int) by omega] at hl
        have hr : mem 123 (4 * ((i : Int) / 2) + (i : Int) % 2).toNat = gRm (mem 123) i := by
          unfold gRm
          split
          · unfold gA; congr 1; omega
          · unfold gB; congr 1; omega
        have hrb : 0 ≤ gRm (mem 123) i ∧ gRm (mem 123) i < 10 := by
          rw [← (pSd_at hD (e := (i : Int)) (by omega)).2.1]
          exact pR_b hD (pSd_at hD (e := (i : Int)) (by omega)).1
        rw [za (by omega)] at e8
        rw [hr] at e7
        rw [e7, e8]
        refine ih (i + 1) _ (by omega) (zor_I _ _) (fun j hj => ?_)
        rw [(zB_put hj (by omega) (by omega)).1, hb j hj]
        constructor
        · rintro (⟨e, q, z⟩ | q)
          · exact ⟨e, by omega, z⟩
          · exact ⟨i, by omega, c2, hl, q.symm⟩
        · rintro ⟨e, q, z1, z2, z3⟩
          by_cases he : e = i
          · right; rw [he] at z3; exact z3.symm
          · exact Or.inl ⟨e, by omega, z1, z2, z3⟩
      · rw [show 2 * ((i : Int) / 2) + (i : Int) % 2 = (i : Int) by omega] at hl
        rw [za (by omega)] at e6
        rw [e5, e6]
        exact skip (fun q => hl q.2)
theorem T_life (hI : Inv mem) (hR : ∀ m', Inv m' → R m') : zC (d + 6) K_Od_life [(2, Int.ofNat 0)] mem (fun r1 m1 => zC (d + 6) K_Mo_life [(2, Int.ofNat 122)] m1 (fun r2 m2 => (r1 = r2 → R m2) ∧ (r1 ≠ r2 → S m2))) := by
  obtain ⟨⟨w1, w2, w3, w4⟩, hP⟩ := id hI.1
  have hN := w1.1
  refine v_Od_life (l_Od_life (d := d + 3) w1 hP.1 w2.2 (fun v hv hb => v_Mo_life ?_) (mem 122 1).toNat 0 0 (by omega) (by omega) (by omega) zI_0 (fun j _ => ⟨fun q => absurd q (zB_0 j), fun q => by omega⟩))
  refine l_Mo_life (d := d) (mem := mem) w1 (fun v' hv' hb' => ⟨fun _ => hR mem hI, fun q => absurd (zB_ext hv hv' (fun j hj => ?_)) q⟩) (2 * gN (mem 123)).toNat 0 0 (by omega) zI_0 (fun j _ => ⟨fun q => absurd q (zB_0 j), fun ⟨a, q, _⟩ => by omega⟩)
  rw [hb j hj, hb' j hj]
  constructor
  · rintro ⟨h1, k, h2, h3⟩
    obtain ⟨e, e1, e2, e3⟩ := gO_side h2
    refine ⟨e.toNat, by omega, ?_, fun x hx => ?_, ?_⟩
    · rw [show e.toNat / 2 = k by omega]
      exact h2.2.1
    · rw [Int.toNat_of_nonneg e1.1, pSd_may w1 e1, e2, e3] at hx
      exact h3 x (gMay_lt w1 hx) hx
    · rw [Int.toNat_of_nonneg e1.1]
      exact e3
  · rintro ⟨e, e1, e2, e3, e4⟩
    have ho := gRm_O (g := mem 123) (e := (e : Int)) (by omega) (by rw [show ((e : Int) / 2).toNat = e / 2 by omega]; exact e2)
    rw [e4] at ho
    obtain ⟨ra, rb⟩ := w3 _ ho.1
    refine ⟨?_, ((e : Int) / 2).toNat, ho, fun x _ hx => e3 x ?_⟩
    · rcases ho.2.2 with z | z <;> omega
    · rw [pSd_may w1 (by omega), e4]
      rw [Int.toNat_of_nonneg (by omega)] at hx
      exact hx
theorem T_trap {a c : Int} (hI : Inv mem) (hR : ∀ m', Inv m' → R m') : zC (d + 7) K_Od_trap [(2, Int.ofNat 0), (0, a), (0, c)] mem (fun r1 m1 => zC (d + 7) K_Mo_trap [(2, Int.ofNat 122), (0, a), (0, c)] m1 (fun r2 m2 => (r1 = r2 → R m2) ∧ (r1 ≠ r2 → S m2))) := by
  obtain ⟨⟨w1, w2, w3, w4⟩, hP⟩ := id hI.1
  have hN := w1.1
  have h0 : mem 2 0 = mem 122 1 := hP.1.1
  have h2 : mem 2 2 = gN (mem 123) := hP.1.2.2.1
  have same : ∀ x y : Int, x = y → (x = y → R mem) ∧ (x ≠ y → S mem) := fun x y e => ⟨fun _ => hR mem hI, fun q => absurd e q⟩
  -- the reference, in one piece
  have ref : ∀ v : Int, (¬ ((0 ≤ a ∧ a < mem 122 1) ∧ (0 ≤ c ∧ c < gN (mem 123)) ∧ (gA (mem 123) c.toNat = a ∨ gB (mem 123) c.toNat = a)) → v = -1) → ((0 ≤ a ∧ a < mem 122 1) → (0 ≤ c ∧ c < gN (mem 123)) → (gA (mem 123) c.toNat = a ∨ gB (mem 123) c.toNat = a) → (gX (mem 123) c.toNat = 1 → v = -2) ∧ (gX (mem 123) c.toNat ≠ 1 → ((∀ j : Nat, ¬ gMay (mem 123) a c (-1) j) → v = 1) ∧ (¬ (∀ j : Nat, ¬ gMay (mem 123) a c (-1) j) → v = 0))) → zC (d + 7) K_Mo_trap [(2, Int.ofNat 122), (0, a), (0, c)] mem (fun r2 m2 => (v = r2 → R m2) ∧ (v ≠ r2 → S m2)) := by
    intro v hv1 hv2
    refine v_Mo_trap (c_Mo_isRoom (d := d + 4) (by omega) (fun c1 => ⟨fun q => absurd q (by decide), fun _ => ?_⟩) (fun c1 => ⟨fun _ => same _ _ (hv1 (fun q => c1 q.1)), fun q => absurd rfl q⟩))
    refine c_Mo_isDoor (d := d + 4) hN.1 (fun c2 => ⟨fun q => absurd q (by decide), fun _ => ?_⟩) (fun c2 => ⟨fun _ => same _ _ (hv1 (fun q => c2 q.2.1)), fun q => absurd rfl q⟩)
    have c2 : 0 ≤ c ∧ c < gN (mem 123) := c2
    rw [zm (by omega), za (y := 1) (by omega), za (y := 3) (by omega), show (4 * c).toNat = 4 * c.toNat by omega, show (4 * c + 1).toNat = 4 * c.toNat + 1 by omega, show (4 * c + 3).toNat = 4 * c.toNat + 3 by omega]
    have tr : ∀ s : Int, (0 ≤ s ∧ s < 2) → gRm (mem 123) (2 * c + s) = a → gX (mem 123) c.toNat ≠ 1 → zC (d + 6) K_Mo_isTrap [(2, Int.ofNat 122), (0, c), (0, s)] mem (fun r3 m3 => (r3 = 0 → zG (d + 7) M_Mo_trap 93 [(9, 0), (9, 0), (9, 0)] [(0, 0)] m3 (fun r2 m2 => (v = r2 → R m2) ∧ (v ≠ r2 → S m2))) ∧ (r3 ≠ 0 → zG (d + 7) M_Mo_trap 93 [(9, 0), (9, 0), (9, 0)] [(0, 1)] m3 (fun r2 m2 => (v = r2 → R m2) ∧ (v ≠ r2 → S m2)))) := by
      intro s hs hr hx
      have hab : gA (mem 123) c.toNat = a ∨ gB (mem 123) c.toNat = a := by
        unfold gRm at hr
        rw [show ((2 * c + s) / 2).toNat = c.toNat by omega] at hr
        split at hr
        · exact Or.inl hr
        · exact Or.inr hr
      have hm : ∀ j, pMay (mem 123) (15 * (2 * c + s)) j ↔ gMay (mem 123) a c (-1) j := fun j => by
        rw [pSd_may w1 (by omega), hr, show (2 * c + s) / 2 = c by omega]
      obtain ⟨-, v3⟩ := hv2 c1 c2 hab
      obtain ⟨v4, v5⟩ := v3 hx
      refine c_Mo_isTrap (d := d + 1) w1 c2 hs (fun hl => ⟨fun q => absurd q (by decide), fun _ => v_Mo_trap_93 (same _ _ (v4 (fun j q => hl j ((hm j).mpr q))))⟩) (fun hl => ⟨fun _ => v_Mo_trap_93 (same _ _ (v5 (fun q => hl (fun j z => q j ((hm j).mp z))))), fun q => absurd rfl q⟩)
    have rA : gRm (mem 123) (2 * c + 0) = gA (mem 123) c.toNat := by unfold gRm; rw [if_pos (by omega), show ((2 * c + 0) / 2).toNat = c.toNat by omega]
    have rB : gRm (mem 123) (2 * c + 1) = gB (mem 123) c.toNat := by unfold gRm; rw [if_neg (by omega), show ((2 * c + 1) / 2).toNat = c.toNat by omega]
    obtain ⟨-, -, dab, -⟩ := w1.2.2 c.toNat (by omega)
    refine ⟨by omega, fun c3 => ⟨by omega, fun c4 => ⟨by omega, fun c5 => tr 0 (by omega) (rA.trans c3) c4, fun c5 => tr 1 (by omega) (rB.trans c5) c4⟩, fun c4 => same _ _ ((hv2 c1 c2 (Or.inl c3)).1 c4)⟩, fun c3 => ⟨by omega, fun c6 => ⟨by omega, fun c4 => ⟨by omega, fun c5 => absurd c6 c5, fun c5 => tr 1 (by omega) (rB.trans c5) c4⟩, fun c4 => same _ _ ((hv2 c1 c2 (Or.inr c6)).1 c4)⟩, fun c6 => same _ _ (hv1 (fun q => q.2.2.elim c3 c6))⟩⟩
  refine v_Od_trap (c_Ho_hasRoom (d := d + 5) (Or.inl rfl) (fun c1 => ⟨fun q => absurd q (by decide), fun _ => ?_⟩) (fun c1 => ⟨fun _ => ref _ (fun _ => rfl) (fun q => absurd (by rw [h0]; exact q) c1), fun q => absurd rfl q⟩))
  refine c_Ho_hasDoor (d := d + 5) (Or.inl rfl) (fun c2 => ⟨fun q => absurd q (by decide), fun _ => ?_⟩) (fun c2 => ⟨fun _ => ref _ (fun _ => rfl) (fun _ q => absurd (by rw [h2]; exact q) c2), fun q => absurd rfl q⟩)
  rw [h0] at c1
  rw [h2] at c2
  refine c_Ho_isOf (d := d + 5) (Or.inl rfl) hP.1 hN.2 c2 (fun c3 => ⟨fun _ => ?_, fun q => absurd q (by decide)⟩) (fun c3 => ⟨fun q => absurd rfl q, fun _ => ref _ (fun _ => rfl) (fun _ _ q => absurd q c3)⟩)
  refine c_Ho_isWalled (d := d + 5) (Or.inl rfl) hP.1 hN.2 c2 (fun c4 => ⟨fun q => absurd q (by decide), fun _ => ref _ (fun q => absurd ⟨c1, c2, c3⟩ q) (fun _ _ _ => ⟨fun _ => rfl, fun q => absurd c4 q⟩)⟩) (fun c4 => ⟨fun _ => ?_, fun q => absurd rfl q⟩)
  refine c_Ho_choices (d := d + 5) (Or.inl rfl) hP.1 w1 (by omega) (Or.inr c2) (Or.inl rfl) (fun v hv hb => ⟨fun c5 => ?_, fun c5 => ?_⟩)
  · refine ref _ (fun q => absurd ⟨c1, c2, c3⟩ q) (fun _ _ _ => ⟨fun q => absurd q c4, fun _ => ⟨fun q => absurd ?_ c5, fun _ => rfl⟩⟩)
    rw [zB_z hv]
    intro j hj
    rw [hb j hj]
    exact q j
  · rw [zB_z hv] at c5
    refine ref _ (fun q => absurd ⟨c1, c2, c3⟩ q) (fun _ _ _ => ⟨fun q => absurd q c4, fun _ => ⟨fun _ => rfl, fun q => absurd (fun j hj => ?_) q⟩⟩)
    exact c5 j (gMay_lt w1 hj) ((hb j (gMay_lt w1 hj)).mpr hj)
end
