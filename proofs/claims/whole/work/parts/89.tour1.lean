section
/-! tour: the class. -/
variable {d w : Nat} {mem m m' m2 : zMem} {Q : Int → zMem → Prop} {R S : zMem → Prop} {g g' : zPg} {rm pl r t u p : Int} {k s L : Nat} {op : Nat → Nat} {start : Int}
def cTo (m : zMem) (L : Nat) (op : Nat → Nat) (start : Int) : Prop := m 87 2 = (L : Int) ∧ m 87 3 = start ∧ ∀ j, j < L → m 88 j = ((op j : Nat) : Int)
theorem cTo.fr (h : cTo m L op start) (h7 : m' 87 = m 87) (h8 : m' 88 = m 88) : cTo m' L op start := by
  unfold cTo at h ⊢
  rw [h7, h8]
  exact h
def tRs (m : zMem) (g : zPg) (L : Nat) (op : Nat → Nat) (start rm : Int) (lo : Nat) : Prop := ∀ st, lo ≤ st → st < 2 ^ L → ∀ c : Nat, c < 5 → ∀ r, 0 ≤ r → r < rm → tAt g L op start st r → m 89 (5 * st + c) = tV g L op st r c
theorem pow_L (hL : L ≤ 8) : 2 ^ L ≤ 256 := by
  have := Nat.pow_le_pow_right (n := 2) (by decide) hL
  exact this
theorem shl_j : ∀ n, n < 14 → zshl 1 (Int.ofNat n) = ((2 ^ n : Nat) : Int) := by decide +kernel
theorem shl_n {j : Nat} (h : j < 14) : zshl 1 (j : Int) = ((2 ^ j : Nat) : Int) := shl_j j h
theorem tst_n {st j : Nat} (hs : st < 2147483648) (hj : j < 32) : (zand (zshr (st : Int) (j : Int)) 1 = 0 ↔ st.testBit j = false) ∧ (zand (zshr (st : Int) (j : Int)) 1 = 1 ↔ st.testBit j = true) := by
  have hz : zI (st : Int) := by unfold zI; omega
  rw [zB_test hz (by omega) (by omega), zB_test1 hz (by omega) (by omega), Int.toNat_natCast, zB_natr hs]
  exact ⟨by simp, Iff.rfl⟩
theorem lor_n {st j : Nat} (hs : st < 2147483648) (hj : j < 14) : zor (st : Int) (zshl 1 (j : Int)) = ((st ||| 2 ^ j : Nat) : Int) := by
  have h1 : 2 ^ j ≤ 2 ^ 14 := Nat.pow_le_pow_right (by decide) (by omega)
  have h2 : (2 : Nat) ^ 14 = 16384 := by decide
  rw [shl_n hj, zor_nat hs (by omega)]
theorem c_To_roomBehind (hD : gDo g) (hH : Hs mem 2 g rm) (hrr : ∀ k : Nat, (k : Int) < gN g → gA g k < rm ∧ gB g k < rm) (hrm : 0 < rm ∧ rm ≤ 10) (ho : tOp g L op) (hct : cTo mem L op start) (hst : 0 ≤ start ∧ start < rm) {st : Nat} (hs : st < 2 ^ L) (hQ1 : ∀ r, 0 ≤ r → r < rm → tAt g L op start st r → Q r mem) (hQ0 : (∀ r, 0 ≤ r → r < rm → ¬ tAt g L op start st r) → Q (-4) mem) : zC (d + 1) K_To_roomBehind [(2, Int.ofNat 87), (2, Int.ofNat 2), (0, (st : Int))] mem Q := by
  have hN := hD.1
  have hp := pow_L ho.1
  obtain ⟨c1, c2, c3⟩ := id hct
  have h0 := hH.1
  have hL8 := ho.1
  -- the rooms
  have rooms : ∀ (n i : Nat) (x : Int), i + n = rm.toNat → zI x → (∀ k : Nat, k < 32 → (zB x k ↔ tOb g op start st k L = true)) → (∀ r : Int, 0 ≤ r → r < i → ¬ tAt g L op start st r) → zG (d + 1) M_To_roomBehind 69 [(9, 0), (2, Int.ofNat 2), (9, 0), (0, x), (0, (i : Int))] [] mem Q := by
    intro n
    induction n with
    | zero =>
      intro i x hi hx hb hno
      exact v_To_roomBehind_69 ⟨fun c => hQ0 (fun r r0 r1 => hno r r0 (by omega)), fun c => by omega⟩
    | succ n ih =>
      intro i x hi hx hb hno
      have key : x = zshl 1 (i : Int) ↔ tAt g L op start st (i : Int) := by
        constructor
        · intro e k hk
          rw [← hb k hk, e, zB_shl (by omega) (by omega)]
        · intro e
          refine zB_ext hx (zshl_I _ _) (fun k hk => ?_)
          rw [hb k hk, zB_shl (by omega) (by omega)]
          exact e k hk
      refine v_To_roomBehind_69 ⟨fun c => by omega, fun c => ⟨fun c2 x1 e1 => ?_, fun c2 => hQ1 i (by omega) (by omega) (key.mp c2)⟩⟩
      rw [za (by omega)] at e1
      rw [e1]
      refine ih (i + 1) x (by omega) hx hb (fun r r0 r1 => ?_)
      by_cases e : r = (i : Int)
      · rw [e]; exact fun q => c2 (key.mpr q)
      · exact hno r r0 (by omega)
  -- the doors
  have doors : ∀ (n i : Nat) (x : Int), i + n = L → zI x → (∀ k : Nat, k < 32 → (zb x k = tOb g op start st k i)) → zG (d + 1) M_To_roomBehind 10 [(2, Int.ofNat 87), (2, Int.ofNat 2), (0, (st : Int)), (0, x), (0, (i : Int))] [] mem Q := by
    intro n
    induction n with
    | zero =>
      intro i x hi hx hb
      refine v_To_roomBehind_10 ⟨fun c => rooms rm.toNat 0 x (by omega) hx (fun k hk => ?_) (fun r r0 r1 => by omega), fun c => by omega⟩
      unfold zB
      rw [hb k hk, show i = L by omega]
    | succ n ih =>
      intro i x hi hx hb
      obtain ⟨t0, t1⟩ := tst_n (st := st) (j := i) (by omega) (by omega)
      obtain ⟨o1, o2⟩ := ho.2.1 i (by omega)
      obtain ⟨da, db, -⟩ := hD.2.2 (op i) o1
      refine v_To_roomBehind_10 ⟨fun c => by omega, fun c => ⟨fun c2 x1 e1 => ?_, fun c2 => ?_⟩⟩
      · rw [za (by omega)] at e1
        rw [e1]
        refine ih (i + 1) x (by omega) hx (fun k hk => ?_)
        show _ = (tOb g op start st k i ^^ (st.testBit i && _))
        rw [hb k hk, t0.mp c2]
        simp
      · rw [Int.toNat_natCast, c3 i (by omega), Int.toNat_natCast]
        obtain ⟨y1, y2, -⟩ := hH.2.2.2.2.1 (op i) o1
        have y1 : mem 3 (op i) = gA g (op i) := y1
        have y2 : mem 4 (op i) = gB g (op i) := y2
        rw [y1, y2]
        refine ⟨by omega, by omega, by omega, by omega, fun x2 e2 x3 e3 => ?_⟩
        rw [za (by omega)] at e3
        rw [e3]
        refine ih (i + 1) x2 (by omega) (e2 ▸ zxor_I _ _) (fun k hk => ?_)
        show _ = (tOb g op start st k i ^^ (st.testBit i && _))
        have ht : st.testBit i = true := by
          have : ¬ st.testBit i = false := fun q => c2 (t0.mpr q)
          simpa using this
        rw [e2, zb_xor, zb_xor, hb k hk, ht, zb_shl1 (by omega) (by omega), zb_shl1 (by omega) (by omega)]
        simp
  refine v_To_roomBehind fun x1 e1 => doors L 0 x1 (by omega) (e1 ▸ zshl_I _ _) (fun k hk => ?_)
  rw [e1, c2, zb_shl1 (by omega) (by omega)]
  rfl
/-- what goes on by a door, found in the row -/
theorem c_To_through (hD : gDo g) (hH : Hs mem 2 g rm) (hrr : ∀ k : Nat, (k : Int) < gN g → gA g k < rm ∧ gB g k < rm) (hrm : 0 < rm ∧ rm ≤ 10) (ho : tOp g L op) (hct : cTo mem L op start) {st : Nat} (hs : st < 2 ^ L) (hrs : tRs mem g L op start rm (st + 1)) (hr : 0 ≤ r ∧ r < rm) (hat : tAt g L op start st r) {c : Nat} (hc : c < 5) {j : Nat} (hj : j < L) (hQ : Q (tTm g L op st r c j) mem) : zC (d + 2) K_To_through [(2, Int.ofNat 87), (2, Int.ofNat 2), (0, (st : Int)), (0, r), (0, (c : Int)), (0, (j : Int))] mem Q := by
  have hN := hD.1
  have hp := pow_L ho.1
  have hL8 := ho.1
  obtain ⟨c1, c2, c3⟩ := id hct
  obtain ⟨o1, o2⟩ := ho.2.1 j hj
  obtain ⟨da, db, dab, dc, -⟩ := hD.2.2 (op j) o1
  obtain ⟨ra, rb⟩ := hrr (op j) o1
  obtain ⟨t0, t1⟩ := tst_n (st := st) (j := j) (by omega) (by omega)
  have e21 : mem 2 1 = gL g := hH.2.1
  obtain ⟨-, -, y3⟩ := hH.2.2.2.2.1 (op j) o1
  have y3 : mem 5 (op j) = gC g (op j) := y3
  refine v_To_through ⟨by omega, fun x1 e1 => ?_⟩
  rw [Int.toNat_natCast, c3 j hj] at e1
  have zero : ¬ (st.testBit j = false ∧ tOk g r c (op j)) → Q 0 mem := by
    intro q
    unfold tTm at hQ
    rw [if_neg q] at hQ
    exact hQ
  refine ⟨fun q => zero (fun z => q (t0.mpr z.1)), fun q => ?_⟩
  have ht := t0.mp q
  rw [e1]
  refine c_Ho_isOf (d := d) (Or.inl rfl) hH hN.2 ⟨by omega, o1⟩ (fun hof => ⟨fun _ => ?_, fun z => absurd z (by decide)⟩) (fun hof => ⟨fun z => absurd rfl z, fun _ => zero (fun z => ?_)⟩)
  · rw [Int.toNat_natCast] at hof ⊢
    have hby : 0 ≤ gBy g (op j) r ∧ gBy g (op j) r < rm := by unfold gBy; split <;> omega
    obtain ⟨u1, u2⟩ := lor_up hj hs ht
    have hval := hrs (st ||| 2 ^ j) (by omega) u2 (gC g (op j)).toNat (by omega) _ hby.1 hby.2 (tAt_step hD ho hj ht hat hof)
    rw [Int.toNat_of_nonneg dc.1] at hval
    have idx : zadd (zmul (zor (st : Int) (zshl 1 (j : Int))) 5) (mem 5 (op j)) = ((5 * (st ||| 2 ^ j) + (gC g (op j)).toNat : Nat) : Int) := by
      rw [lor_n (by omega) (by omega), y3, zm (by omega), za (by omega)]
      omega
    have yes : tOk g r c (op j) → Q (mem 89 (5 * (st ||| 2 ^ j) + (gC g (op j)).toNat)) mem := by
      intro hok
      rw [hval]
      unfold tTm at hQ
      rw [if_pos ⟨ht, hok⟩] at hQ
      exact hQ
    rw [idx, e21, Int.toNat_natCast, y3]
    refine ⟨fun z => ⟨by omega, by omega, yes ⟨hof, fun y => z y.1⟩⟩, fun z => ⟨by omega, fun z2 => ⟨by omega, by omega, yes ⟨hof, fun y => z2 y.2⟩⟩, fun z2 => zero (fun y => y.2.2 ⟨z, z2⟩)⟩⟩
  · rw [Int.toNat_natCast] at hof
    exact hof z.2.1
theorem c_To_through0 (hD : gDo g) (hH : Hs mem 2 g rm) (ho : tOp g L op) (hct : cTo mem L op start) {st : Nat} (hs : st < 2 ^ L) {c j : Nat} (hj : j < L) (hQ : Q 0 mem) : zC (d + 2) K_To_through [(2, Int.ofNat 87), (2, Int.ofNat 2), (0, (st : Int)), (0, -4), (0, (c : Int)), (0, (j : Int))] mem Q := by
  have hN := hD.1
  have hL8 := ho.1
  obtain ⟨c1, c2, c3⟩ := id hct
  obtain ⟨o1, o2⟩ := ho.2.1 j hj
  obtain ⟨da, db, -⟩ := hD.2.2 (op j) o1
  refine v_To_through ⟨by omega, fun x1 e1 => ⟨fun _ => hQ, fun _ => ?_⟩⟩
  rw [Int.toNat_natCast, c3 j hj] at e1
  rw [e1]
  refine c_Ho_isOf (d := d) (Or.inl rfl) hH hN.2 ⟨by omega, o1⟩ (fun hof => ?_) (fun _ => ⟨fun z => absurd rfl z, fun _ => hQ⟩)
  rw [Int.toNat_natCast] at hof
  omega
theorem c_To_fill (hD : gDo g) (hH : Hs mem 2 g rm) (hrr : ∀ k : Nat, (k : Int) < gN g → gA g k < rm ∧ gB g k < rm) (hrm : 0 < rm ∧ rm ≤ 10) (ho : tOp g L op) (hct : cTo mem L op start) (hst : 0 ≤ start ∧ start < rm) {st : Nat} (hs : st < 2 ^ L - 1) (hrs : tRs mem g L op start rm (st + 1)) (hQ : ∀ m' : zMem, tRs m' g L op start rm st → (∀ c, c ≠ 89 → m' c = mem c) → Q 0 m') : zC (d + 3) K_To_fill [(2, Int.ofNat 87), (2, Int.ofNat 2), (0, (st : Int))] mem Q := by
  have hp := pow_L ho.1
  have hL8 := ho.1
  have hs2 : st < 2 ^ L := by omega
  have hrem := tRem_pos hs
  -- the marks
  have marks : ∀ (rb : Int), (∀ c j : Nat, c < 5 → j < L → ∀ (m : zMem) (Q2 : Int → zMem → Prop), (∀ c, c ≠ 89 → m c = mem c) → (∀ i, ¬ (5 * st ≤ i ∧ i < 5 * st + 5) → m 89 i = mem 89 i) → (∀ v, 0 ≤ v → v ≤ 16777216 → (∀ r, 0 ≤ r → r < rm → tAt g L op start st r → v = tTm g L op st r c j) → Q2 v m) → zC (d + 2) K_To_through [(2, Int.ofNat 87), (2, Int.ofNat 2), (0, (st : Int)), (0, rb), (0, (c : Int)), (0, (j : Int))] m Q2) →
      ∀ (n c : Nat) (m : zMem), c + n = 5 → (∀ c', c' < c → ∀ r, 0 ≤ r → r < rm → tAt g L op start st r → m 89 (5 * st + c') = tV g L op st r c') → (∀ c, c ≠ 89 → m c = mem c) → (∀ i, ¬ (5 * st ≤ i ∧ i < 5 * st + 5) → m 89 i = mem 89 i) → zG (d + 3) M_To_fill 10 [(2, Int.ofNat 87), (2, Int.ofNat 2), (0, (st : Int)), (0, rb), (0, (c : Int)), (9, 0), (9, 0)] [] m Q := by
    intro rb hth n
    induction n with
    | zero =>
      intro c m hc h1 hf h2
      refine v_To_fill_10 ⟨fun _ => hQ m (fun st' hl hs' c' hc' r r0 r1 hat => ?_) hf, fun q => by omega⟩
      by_cases e : st' = st
      · rw [e] at hat ⊢
        exact h1 c' (by omega) r r0 r1 hat
      · rw [h2 _ (by omega)]
        exact hrs st' (by omega) hs' c' hc' r r0 r1 hat
    | succ n ih =>
      intro c m hc h1 hf h2
      refine v_To_fill_10 ⟨fun q => by omega, fun q => ?_⟩
      have sum : ∀ (n2 j : Nat) (x : Int), j + n2 = L → (0 ≤ x ∧ x ≤ 16777216 * j) → (∀ r, 0 ≤ r → r < rm → tAt g L op start st r → x = zsum (tTm g L op st r c) j) → zG (d + 3) M_To_fill 22 [(2, Int.ofNat 87), (2, Int.ofNat 2), (0, (st : Int)), (0, rb), (0, (c : Int)), (0, x), (0, (j : Int))] [] m Q := by
        intro n2
        induction n2 with
        | zero =>
          intro j x hj hx hxe
          have e87 : m 87 2 = (L : Int) := by rw [hf 87 (by omega)]; exact hct.1
          refine v_To_fill_22 ⟨fun _ => ?_, fun q => by omega⟩
          rw [zm (by omega), za (by omega), show ((st : Int) * 5 + (c : Int)).toNat = 5 * st + c by omega]
          refine ⟨by omega, fun m1 f1 x1 e1 => ?_⟩
          rw [za (by omega)] at e1
          rw [e1]
          refine ih (c + 1) m1 (by omega) (fun c' hc' r r0 r1 hat => ?_) (fun k hk => by rw [← hf k hk]; funext i; rw [f1, zup_k hk]) (fun i hi => by rw [f1, zup_j (by omega), h2 i hi])
          rw [f1, zup_at]
          by_cases e : c' = c
          · rw [if_pos ⟨rfl, by omega⟩, e, hxe r r0 r1 hat, tV_s hrem, show j = L by omega]
          · rw [if_neg (by omega)]
            exact h1 c' (by omega) r r0 r1 hat
        | succ n2 ih2 =>
          intro j x hj hx hxe
          have e87 : m 87 2 = (L : Int) := by rw [hf 87 (by omega)]; exact hct.1
          refine v_To_fill_22 ⟨fun q => by omega, fun q => hth c j (by omega) (by omega) m _ hf h2 (fun v v0 v1 hv x3 e3 x4 e4 => ?_)⟩
          rw [za (by omega)] at e3 e4
          rw [e3, e4]
          refine ih2 (j + 1) _ (by omega) (by omega) (fun r r0 r1 hat => ?_)
          rw [hxe r r0 r1 hat, hv r r0 r1 hat]
          rfl
      exact sum L 0 0 (by omega) (by omega) (fun _ _ _ _ => rfl)
  refine v_To_fill (c_To_roomBehind (d := d + 1) hD hH hrr hrm ho hct hst hs2 (fun r r0 r1 hat => ?_) (fun hno => ?_))
  · refine marks r (fun c j hc hj m Q2 hf h2 hQ2 => ?_) 5 0 mem (by omega) (fun c' hc' => by omega) (fun _ _ => rfl) (fun _ _ => rfl)
    refine c_To_through (d := d) hD (hH.fr (fun c c1 c2 => hf c (by omega))) hrr hrm ho (hct.fr (hf 87 (by omega)) (hf 88 (by omega))) hs2 (fun st' hl hs' c' hc' r' q0 q1 hat' => ?_) ⟨r0, r1⟩ hat hc hj (hQ2 _ (tTm_b hL8 _ _ _ _).1 (tTm_b hL8 _ _ _ _).2 (fun r' q0 q1 hat' => ?_))
    · rw [h2 _ (by omega)]
      exact hrs st' hl hs' c' hc' r' q0 q1 hat'
    · rw [tAt_fn hat hat' (by omega)]
  · refine marks (-4) (fun c j hc hj m Q2 hf h2 hQ2 => ?_) 5 0 mem (by omega) (fun c' hc' => by omega) (fun _ _ => rfl) (fun _ _ => rfl)
    exact c_To_through0 (d := d) hD (hH.fr (fun c c1 c2 => hf c (by omega))) ho (hct.fr (hf 87 (by omega)) (hf 88 (by omega))) hs2 hj (hQ2 0 (by omega) (by omega) (fun r' q0 q1 hat' => absurd hat' (hno r' q0 q1)))
theorem c_To_prepare (hD : gDo g) (hH : Hs mem 2 g rm) (hrr : ∀ k : Nat, (k : Int) < gN g → gA g k < rm ∧ gB g k < rm) (hrm : 0 < rm ∧ rm ≤ 10) (hst : 0 ≤ start ∧ start < rm) (h8 : gOc g (gN g).toNat ≤ 8)
    (hQ : ∀ m' : zMem, cTo m' (gOc g (gN g).toNat).toNat (gOp g (gN g).toNat) start → tRs m' g (gOc g (gN g).toNat).toNat (gOp g (gN g).toNat) start rm 0 → (∀ c, c < 87 ∨ 89 < c → m' c = mem c) → Q 0 m') : zC (d + 4) K_To_prepare [(2, Int.ofNat 87), (2, Int.ofNat 2), (0, start)] mem Q := by
  have hN := hD.1
  have ho := tOp_of hD h8
  have hge := gOc_le g (gN g).toNat
  have hp := pow_L ho.1
  generalize hLe : (gOc g (gN g).toNat).toNat = L at ho hp hQ
  have hLi : gOc g (gN g).toNat = (L : Int) := by omega
  have hL8 := ho.1
  have hp0 : 0 < 2 ^ L := Nat.two_pow_pos _
  -- all sets but the full one
  have fills : ∀ (n st : Nat) (m : zMem), st = n → st ≤ 2 ^ L - 1 → cTo m L (gOp g (gN g).toNat) start → tRs m g L (gOp g (gN g).toNat) start rm st → (∀ c, c < 87 ∨ 89 < c → m c = mem c) → zG (d + 4) M_To_prepare 104 [(2, Int.ofNat 87), (2, Int.ofNat 2), (9, 0), (9, 0), (0, (st : Int) - 1)] [] m Q := by
    intro n
    induction n with
    | zero =>
      intro st m hst' hle hc hrs hf
      refine v_To_prepare_104 ⟨fun _ => hQ m hc (by rw [hst'] at hrs; exact hrs) hf, fun q => by omega⟩
    | succ n ih =>
      intro st m hst' hle hc hrs hf
      refine v_To_prepare_104 ⟨fun q => by omega, fun q => ?_⟩
      rw [show (st : Int) - 1 = ((st - 1 : Nat) : Int) by omega]
      refine c_To_fill (d := d) hD (hH.fr (fun c c1 c2 => hf c (by omega))) hrr hrm ho hc hst (st := st - 1) (by omega) (by rw [show st - 1 + 1 = st by omega]; exact hrs) (fun m1 hr1 hf1 x2 e2 => ?_)
      rw [za (by omega)] at e2
      rw [e2, show ((st - 1 : Nat) : Int) + -1 = ((st - 1 : Nat) : Int) - 1 by omega]
      exact ih (st - 1) m1 (by omega) (by omega) (hc.fr (hf1 87 (by omega)) (hf1 88 (by omega))) hr1 (fun c hc => by rw [hf1 c (by omega), hf c hc])
  -- the full set
  have ones : ∀ (n i : Nat) (m : zMem), i + n = 5 → cTo m L (gOp g (gN g).toNat) start → (∀ c, c < i → m 89 (5 * (2 ^ L - 1) + c) = 1) → (∀ c, c < 87 ∨ 89 < c → m c = mem c) → zG (d + 4) M_To_prepare 75 [(2, Int.ofNat 87), (2, Int.ofNat 2), (9, 0), (0, ((2 ^ L - 1 : Nat) : Int)), (0, (i : Int))] [] m Q := by
    intro n
    induction n with
    | zero =>
      intro i m hi hc h1 hf
      refine v_To_prepare_75 ⟨fun _ x1 e1 => ?_, fun q => by omega⟩
      generalize hP : 2 ^ L - 1 = P at h1 e1
      have hPb : P < 256 := by omega
      rw [zs (by omega)] at e1
      rw [e1]
      refine fills P P m rfl (by omega) hc (fun st hl hs c hc' r r0 r1 hat => ?_) hf
      have : st = P := by omega
      rw [this, h1 c (by omega), tV_0]
      rw [← hP]
      exact tRem_full
    | succ n ih =>
      intro i m hi hc h1 hf
      refine v_To_prepare_75 ⟨fun q => by omega, fun q => ?_⟩
      generalize hP : 2 ^ L - 1 = P at h1 ih
      have hPb : P < 256 := by omega
      rw [zm (by omega), za (by omega), show ((P : Int) * 5 + (i : Int)).toNat = 5 * P + i by omega]
      refine ⟨by omega, fun m1 f1 x2 e2 => ?_⟩
      rw [za (by omega)] at e2
      rw [e2]
      have g1 : ∀ c, c ≠ 89 → m1 c = m c := fun c hc => by funext j; rw [f1, zup_k hc]
      refine ih (i + 1) m1 (by omega) (hc.fr (g1 87 (by omega)) (g1 88 (by omega))) (fun c hc' => ?_) (fun c hc => by rw [g1 c (by omega), hf c hc])
      rw [f1, zup_at]
      by_cases e : c = i
      · rw [if_pos ⟨rfl, by omega⟩]
      · rw [if_neg (by omega)]
        exact h1 c (by omega)
  -- the doors
  have doors : ∀ (n i : Nat) (m : zMem), i + n = (gN g).toNat → m 87 2 = gOc g i → m 87 3 = start → (∀ k : Nat, k < i → gX g k = 0 → m 88 (gOc g k).toNat = k) → (∀ c, c < 87 ∨ 89 < c → m c = mem c) → zG (d + 4) M_To_prepare 12 [(2, Int.ofNat 87), (2, Int.ofNat 2), (9, 0), (0, (i : Int)), (9, 0)] [] m Q := by
    intro n
    induction n with
    | zero =>
      intro i m hi h1 h3 h2 hf
      have e22 : m 2 2 = gN g := by rw [hf 2 (by omega)]; exact hH.2.2.1
      refine v_To_prepare_12 ⟨fun _ x1 e1 => ?_, fun q => by omega⟩
      have hx1 : x1 = ((2 ^ L - 1 : Nat) : Int) := by
        rw [e1, h1, show i = (gN g).toNat by omega, hLi]
        have key : ∀ n, n < 9 → zsub (zshl 1 (Int.ofNat n)) 1 = ((2 ^ n - 1 : Nat) : Int) := by decide +kernel
        exact key L (by omega)
      rw [hx1]
      refine ones 5 0 m (by omega) ⟨by rw [h1, show i = (gN g).toNat by omega, hLi], h3, fun j hj => ?_⟩ (fun c hc => by omega) hf
      obtain ⟨a1, a2, a3⟩ := gOp_of (g := g) (gN g).toNat j (by omega)
      have := h2 (gOp g (gN g).toNat j) (by omega) a2
      rw [a3, Int.toNat_natCast] at this
      exact this
    | succ n ih =>
      intro i m hi h1 h3 h2 hf
      have hHm : Hs m 2 g rm := hH.fr (fun c c1 c2 => hf c (by omega))
      have e22 : m 2 2 = gN g := hHm.2.2.1
      have hgi := gOc_le g i
      have hmono := gOc_mono g (gN g).toNat (m := i + 1) (by omega)
      have e2 : gOc g (i + 1) = gOc g i + (if gX g i = 0 then 1 else 0) := rfl
      obtain ⟨-, -, -, -, dx⟩ := hD.2.2 i (by omega)
      refine v_To_prepare_12 ⟨fun q => by omega, fun q => c_Ho_isWalled (d := d + 2) (Or.inl rfl) hHm hN.2 (k := (i : Int)) (by omega) (fun hw => ⟨fun _ x3 e3 => ?_, fun z => absurd z (by decide)⟩) (fun hw => ⟨fun z => absurd rfl z, fun _ => ?_⟩)⟩
      · rw [Int.toNat_natCast] at hw
        rw [za (by omega)] at e3
        rw [e3]
        rw [if_neg (by omega)] at e2
        refine ih (i + 1) m (by omega) (by rw [h1, e2]; omega) h3 (fun k hk hx => ?_) hf
        by_cases e : k = i
        · rw [e] at hx; omega
        · exact h2 k (by omega) hx
      · rw [Int.toNat_natCast] at hw
        have hx0 : gX g i = 0 := by omega
        rw [if_pos hx0] at e2
        rw [h1]
        refine ⟨fun z => by omega, fun z => ⟨by omega, fun m2 f2 m3 f3 x5 e5 => ?_⟩⟩
        rw [za (by omega)] at e5
        rw [e5]
        have g2 : m2 87 2 = gOc g i := by rw [f2, zup_k (by omega), h1]
        rw [g2, za (by omega)] at f3
        refine ih (i + 1) m3 (by omega) (by rw [f3, zup_e, e2]) (by rw [f3, zup_j (by omega), f2, zup_k (by omega), h3]) (fun k hk hx => ?_) (fun c hc => by rw [← hf c hc]; funext j; rw [f3, zup_k (by omega), f2, zup_k (by omega)])
        rw [f3, zup_k (by omega), f2, zup_at]
        by_cases e : k = i
        · rw [if_pos ⟨rfl, by rw [e]⟩, e]
        · have g1 := gOc_mono g i (m := k + 1) (by omega)
          have g3 : gOc g (k + 1) = gOc g k + (if gX g k = 0 then 1 else 0) := rfl
          rw [if_pos hx] at g3
          have g4 := gOc_le g k
          rw [if_neg (fun y => by have := y.2; omega)]
          exact h2 k (by omega) hx
  refine v_To_prepare fun m1 e1 m2 e2 => doors (gN g).toNat 0 m2 (by omega) (by rw [e2, zup_e]; rfl) (by rw [e2, zup_j (by omega), e1, zup_e]) (fun k hk => by omega) (fun c hc => by funext j; rw [e2, zup_k (by omega), e1, zup_k (by omega)])
theorem c_To_stepOf (hD : gDo g) (hH : Hs mem 2 g rm) (hrr : ∀ k : Nat, (k : Int) < gN g → gA g k < rm ∧ gB g k < rm) (hrm : 0 < rm ∧ rm ≤ 10) (ho : tOp g L op) (hct : cTo mem L op start) (hst : 0 ≤ start ∧ start < rm) (hrs : tRs mem g L op start rm 0) {i : Nat}
    (hQ0 : (L ≤ i ∨ tV g L op 0 start 4 = 0) → Q (-4) mem) (hQ1 : i < L → 0 < tV g L op 0 start 4 → ∀ st r c dl, tGr g L op start (i + 1) st r c dl → Q dl mem) : zC (d + 3) K_To_stepOf [(2, Int.ofNat 87), (2, Int.ofNat 2), (0, (i : Int))] mem Q := by
  have hp := pow_L ho.1
  have hL8 := ho.1
  have hp0 : 0 < 2 ^ L := Nat.two_pow_pos _
  have hN := hD.1
  have hall : mem 89 4 = tV g L op 0 start 4 := hrs 0 (by omega) (by omega) 4 (by omega) start hst.1 hst.2 tAt_0
  have e87 := hct.1
  refine v_To_stepOf ⟨fun q => hQ0 (by omega), fun q => v_To_all ?_⟩
  rw [hall]
  refine ⟨fun z => ?_, fun z => hQ0 (Or.inr z)⟩
  have hpos : 0 < tV g L op 0 start 4 := by have := (tV_b (g := g) (op := op) hL8 0 start 4).1; omega
  have steps : ∀ (N n : Nat) (st : Nat) (r : Int) (c : Nat) (dl : Int), n + N = i + 1 → st < 2 ^ L → tRem L st = L - n → tGr g L op start n st r c dl → (0 ≤ r ∧ r < rm) → tAt g L op start st r → c < 5 → 0 < tV g L op st r c → zG (d + 3) M_To_stepOf 30 [(2, Int.ofNat 87), (2, Int.ofNat 2), (0, (i : Int)), (0, (st : Int)), (0, (c : Int)), (0, dl), (0, (n : Int)), (9, 0), (9, 0)] [] mem Q := by
    intro N
    induction N with
    | zero =>
      intro n st r c dl hn hs hrem hgr hr hat hc hv
      refine v_To_stepOf_30 ⟨fun _ => hQ1 (by omega) hpos st r c dl (by rw [← show n = i + 1 by omega]; exact hgr), fun y => by omega⟩
    | succ N ih =>
      intro n st r c dl hn hs hrem hgr hr hat hc hv
      have hrem0 : 0 < tRem L st := by omega
      refine v_To_stepOf_30 ⟨fun y => by omega, fun y => c_To_roomBehind (d := d + 1) hD hH hrr hrm ho hct hst hs (fun r' q0 q1 hat' => ?_) (fun hno => absurd hat (hno r hr.1 hr.2))⟩
      have er : r' = r := (tAt_fn hat hat' (by omega)).symm
      rw [er]
      have look : ∀ (n2 j : Nat), j + n2 = L → (∀ i, i < j → ¬ 0 < tTm g L op st r c i) → zG (d + 3) M_To_stepOf 47 [(2, Int.ofNat 87), (2, Int.ofNat 2), (0, (i : Int)), (0, (st : Int)), (0, (c : Int)), (0, dl), (0, (n : Int)), (0, r), (0, (j : Int))] [] mem Q := by
        intro n2
        induction n2 with
        | zero =>
          intro j hj hno
          exfalso
          rw [tV_s hrem0, zsum_pos L (fun k hk => hno k (by omega)) (fun k _ => (tTm_b hL8 _ _ _ _).1)] at hv
          omega
        | succ n2 ih2 =>
          intro j hj hno
          obtain ⟨o1, o2⟩ := ho.2.1 j (by omega)
          obtain ⟨da, db, dab, dc, -⟩ := hD.2.2 (op j) o1
          obtain ⟨ra, rb⟩ := hrr (op j) o1
          refine v_To_stepOf_47 ⟨fun y => by omega, fun y => c_To_through (d := d) hD hH hrr hrm ho hct hs (fun st' hl hs' c' hc' r' q0 q1 hat' => hrs st' (by omega) hs' c' hc' r' q0 q1 hat') hr hat hc (by omega) ⟨fun y2 x3 e3 => ?_, fun y2 => ⟨by omega, fun x4 e4 => ?_⟩⟩⟩
          · rw [za (by omega)] at e3
            rw [e3]
            refine ih2 (j + 1) (by omega) (fun k hk => ?_)
            by_cases e : k = j
            · rw [e]; omega
            · exact hno k (by omega)
          · rw [Int.toNat_natCast, hct.2.2 j (by omega)] at e4
            rw [e4, Int.toNat_natCast]
            obtain ⟨-, -, y3⟩ := hH.2.2.2.2.1 (op j) o1
            have y3 : mem 5 (op j) = gC g (op j) := y3
            rw [y3]
            refine ⟨by omega, fun x5 e5 x6 e6 x7 e7 => ?_⟩
            rw [lor_n (by omega) (by omega)] at e6
            rw [za (by omega)] at e7
            have hcond : st.testBit j = false ∧ tOk g r c (op j) := by
              refine Classical.byContradiction fun hh => ?_
              unfold tTm at y2
              rw [if_neg hh] at y2
              omega
            have hterm : 0 < tV g L op (st ||| 2 ^ j) (gBy g (op j) r) (gC g (op j)) := by
              unfold tTm at y2
              rw [if_pos hcond] at y2
              exact y2
            obtain ⟨u1, u2⟩ := lor_up (show j < L by omega) hs hcond.1
            rw [e5, e6, e7, show gC g (op j) = (((gC g (op j)).toNat : Nat) : Int) by omega]
            refine ih (n + 1) (st ||| 2 ^ j) (gBy g (op j) r) (gC g (op j)).toNat _ (by omega) u2 ?_ ?_ ?_ (tAt_step hD ho (by omega) hcond.1 hat hcond.2.1) (by omega) ?_
            · rw [tRem_s (by omega) hcond.1, hrem]; omega
            · exact ⟨st, r, c, dl, hgr, j, by omega, y2, hno, rfl, rfl, by omega, rfl⟩
            · unfold gBy; split <;> omega
            · rw [Int.toNat_of_nonneg dc.1]; exact hterm
      exact look L 0 (by omega) (fun k hk => by omega)
  refine steps (i + 1) 0 0 start 4 (-4) (by omega) (by omega) ?_ ⟨rfl, rfl, rfl, rfl⟩ hst tAt_0 (by omega) hpos
  have hfull : ∀ n, zct (fun j => Nat.testBit 0 j = false) n = n := by
    intro n
    induction n with
    | zero => rfl
    | succ n ih =>
      rw [zct_y (P := fun j => Nat.testBit 0 j = false) (Nat.zero_testBit _), ih]
      omega
  unfold tRem
  rw [hfull L]
  omega
end
