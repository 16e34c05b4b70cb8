section
/-! tour: the reference. -/
variable {d w : Nat} {mem m m' m2 : zMem} {Q : Int → zMem → Prop} {R S : zMem → Prop} {g g' : zPg} {rm pl r t u p c : Int} {k s L : Nat} {op : Nat → Nat} {start : Int}
/-- a place behind some doors -/
def tPl (g : zPg) (L : Nat) (op : Nat → Nat) (st : Nat) (p r c : Int) : Prop := pOK g p ∧ pR g p = r ∧ ((pL p = -4 ∧ c = 4) ∨ ∃ i, i < L ∧ st.testBit i = true ∧ pL p = ((op i : Nat) : Int) ∧ c = gC g (op i)) ∧ (pB p = -1 ∨ ∃ i, i < L ∧ st.testBit i = true ∧ pB p = ((op i : Nat) : Int))
theorem tPl.may (hD : gDo g) (ho : tOp g L op) {st : Nat} (h : tPl g L op st p r c) {k : Nat} (hk : k < L) (hb : st.testBit k = false) : pMay g p (op k) ↔ tOk g r c (op k) := by
  obtain ⟨h1, h2, h3, h4⟩ := h
  obtain ⟨o1, o2⟩ := ho.2.1 k hk
  obtain ⟨-, -, -, dc, -⟩ := hD.2.2 (op k) o1
  have ne : ∀ i, i < L → st.testBit i = true → op k ≠ op i := by
    intro i hi hbi e
    rw [ho.2.2 k i hk hi e, hbi] at hb
    exact absurd hb (by decide)
  unfold pMay gMay tOk gO
  rw [h2]
  constructor
  · rintro ⟨⟨-, -, q1⟩, q2⟩
    refine ⟨q1, fun q3 => q2 ?_⟩
    rcases h3 with ⟨y1, y2⟩ | ⟨i, i1, i2, i3, i4⟩
    · omega
    · refine ⟨by omega, Or.inr (Or.inr ⟨q3.1, ?_⟩)⟩
      rw [i3, Int.toNat_natCast, ← i4]
      exact q3.2
  · rintro ⟨q1, q2⟩
    refine ⟨⟨o1, o2, q1⟩, fun q3 => ?_⟩
    obtain ⟨z0, z1⟩ := q3
    rcases h3 with ⟨y1, y2⟩ | ⟨i, i1, i2, i3, i4⟩
    · omega
    · have hn1 := ne i i1 i2
      rcases z1 with ⟨-, z2⟩ | ⟨-, z2⟩ | ⟨z2, z3⟩
      · omega
      · rcases z2 with z2 | z2
        · omega
        · rcases h4 with y | ⟨i', j1, j2, j3⟩
          · omega
          · have := ne i' j1 j2
            omega
      · rw [i3, Int.toNat_natCast, ← i4] at z3
        exact q2 ⟨z2, z3⟩
theorem tPl.step (hD : gDo g) (ho : tOp g L op) {st : Nat} (h : tPl g L op st p r c) {k : Nat} (hk : k < L) : tPl g L op (st ||| 2 ^ k) (pStep g p (op k)) (gBy g (op k) r) (gC g (op k)) := by
  obtain ⟨h1, h2, h3, h4⟩ := h
  obtain ⟨o1, o2⟩ := ho.2.1 k hk
  obtain ⟨s1, s2, s3, s4, s5⟩ := pStep_ok hD h1 (d := op k) o1
  refine ⟨s1, by rw [s3, h2], Or.inr ⟨k, hk, by rw [lor_tb]; simp, s4, rfl⟩, ?_⟩
  rw [s5]
  split
  · rcases h3 with ⟨y1, y2⟩ | ⟨i, i1, i2, i3, i4⟩
    · left; rw [y1]; rfl
    · right
      refine ⟨i, i1, by rw [lor_tb, i2]; rfl, ?_⟩
      rw [i3]
      unfold zn4
      rw [if_neg (by omega)]
  · exact Or.inl rfl
theorem tPl.new {a : Int} (ha : 0 ≤ a ∧ a < 10) : tPl g L op 0 (pNew a) a 4 := by
  obtain ⟨h1, h2, h3, h4⟩ := pRep.new (g := g) ha
  refine ⟨h1, h2, Or.inl ⟨h3, rfl⟩, Or.inl ?_⟩
  rw [h4]
  split
  · rfl
  · rfl
theorem tPl.side (hD : gDo g) (ho : tOp g L op) {st e : Nat} (he : e < 2 * L) (hb : st.testBit (e / 2) = true) : tPl g L op st (15 * (2 * ((op (e / 2) : Nat) : Int) + ((e % 2 : Nat) : Int))) (gRm g (2 * ((op (e / 2) : Nat) : Int) + ((e % 2 : Nat) : Int))) (gC g (op (e / 2))) := by
  obtain ⟨o1, o2⟩ := ho.2.1 (e / 2) (by omega)
  obtain ⟨a1, a2, a3, a4⟩ := pSd_at hD (e := 2 * ((op (e / 2) : Nat) : Int) + ((e % 2 : Nat) : Int)) (by omega)
  exact ⟨a1, a2, Or.inr ⟨e / 2, by omega, hb, by rw [a3]; omega, rfl⟩, Or.inl a4⟩
def fTo (m : zMem) (L : Nat) (op : Nat → Nat) : Prop := m 122 29 = (L : Int) ∧ ∀ j, j < L → m 135 j = ((op j : Nat) : Int)
def tRt (m : zMem) (g : zPg) (L : Nat) (op : Nat → Nat) (lo : Nat) : Prop := ∀ st, lo ≤ st → st < 2 ^ L → ∀ e, e < 2 * L → st.testBit (e / 2) = true → m 136 (30 * st + e) = tV g L op st (gRm g (2 * ((op (e / 2) : Nat) : Int) + ((e % 2 : Nat) : Int))) (gC g (op (e / 2)))
theorem full_z {L : Nat} (h : L ≤ 8) : zsub (zshl 1 (L : Int)) 1 = ((2 ^ L - 1 : Nat) : Int) := by
  have key : ∀ n, n < 9 → zsub (zshl 1 (Int.ofNat n)) 1 = ((2 ^ n - 1 : Nat) : Int) := by decide +kernel
  exact key L (by omega)
/-- where a step by a door of the row leads to, in the reference's table -/
theorem step_ix (hD : gDo g) (ho : tOp g L op) {st : Nat} (hs : st < 2 ^ L) (h : tPl g L op st p r c) {k : Nat} (hk : k < L) (hok : gA g (op k) = r ∨ gB g (op k) = r) : ∃ e : Nat, e < 2 * L ∧ e / 2 = k ∧ gRm g (2 * ((op (e / 2) : Nat) : Int) + ((e % 2 : Nat) : Int)) = gBy g (op k) r ∧ zadd (zadd (zmul 30 (zor (st : Int) (zshl 1 (k : Int)))) (zmul 2 (k : Int))) (zrem (zdiv (pStep g p (op k)) 15) 2) = ((30 * (st ||| 2 ^ k) + e : Nat) : Int) ∧ st ||| 2 ^ k < 256 := by
  have hp := pow_L ho.1
  have hL8 := ho.1
  obtain ⟨o1, o2⟩ := ho.2.1 k hk
  obtain ⟨-, -, dab, -⟩ := hD.2.2 (op k) o1
  have hN := hD.1
  have h1 := h.1
  obtain ⟨s1, s2, s3, s4, s5⟩ := pStep_ok hD h1 (d := op k) o1
  have hse := pStep_eq hD h1 (d := op k) o1
  rw [h.2.1] at hse
  have hnb : ∀ na : Int, na = (if gL g = 1 then zn4 (pL p) else -1) → -1 ≤ na ∧ na < 14 := by
    intro na e
    rw [e]
    split
    · exact zn4_b (by have := pL_b h1; omega)
    · omega
  have hnb2 := hnb _ rfl
  generalize (if gL g = 1 then zn4 (pL p) else -1) = na at hse hnb2
  have hst2 : st ||| 2 ^ k < 2 ^ L := Nat.or_lt_two_pow hs (Nat.pow_lt_pow_right (by decide) hk)
  have hlor := lor_n (st := st) (j := k) (by omega) (by omega)
  generalize hX : st ||| 2 ^ k = X at hst2 hlor
  rw [hlor, zm (x := 30) (by omega), zm (x := 2) (by omega), za (x := 30 * (X : Int)) (by omega), zd (by omega) (by omega), zr (by omega) (by omega), za (by omega)]
  unfold gBy
  by_cases q : gA g (op k) = r
  · rw [if_pos q] at hse ⊢
    refine ⟨2 * k + 1, by omega, by omega, ?_, by omega, by omega⟩
    rw [show (2 * k + 1) / 2 = k by omega, show (2 * k + 1) % 2 = 1 by omega]
    unfold gRm
    rw [if_neg (by omega), show ((2 * ((op k : Nat) : Int) + ((1 : Nat) : Int)) / 2).toNat = op k by omega]
  · rw [if_neg q] at hse ⊢
    refine ⟨2 * k, by omega, by omega, ?_, by omega, by omega⟩
    rw [show (2 * k) / 2 = k by omega, show (2 * k) % 2 = 0 by omega]
    unfold gRm
    rw [if_pos (by omega), show ((2 * ((op k : Nat) : Int) + ((0 : Nat) : Int)) / 2).toNat = op k by omega]
theorem c_Mo_onward (hD : gDo (mem 123)) (ho : tOp (mem 123) L op) (hft : fTo mem L op) {st : Nat} (hs : st < 2 ^ L) (hrt : tRt mem (mem 123) L op (st + 1)) (h : tPl (mem 123) L op st p r c) (hQ : Q (tV (mem 123) L op st r c) mem) : zC (d + 3) K_Mo_onward [(2, Int.ofNat 122), (0, p), (0, (st : Int))] mem Q := by
  have hp := pow_L ho.1
  have hL8 := ho.1
  have hp0 : 0 < 2 ^ L := Nat.two_pow_pos _
  obtain ⟨f1, f2⟩ := hft
  refine v_Mo_onward ?_
  rw [f1, full_z hL8]
  refine ⟨fun q => ?_, fun q => ?_⟩
  · have hrem := tRem_pos (L := L) (st := st) (by omega)
    have loop : ∀ (n k : Nat), k + n = L → zG (d + 3) M_Mo_onward 19 [(2, Int.ofNat 122), (0, p), (0, (st : Int)), (0, zsum (tTm (mem 123) L op st r c) k), (0, (k : Int)), (9, 0)] [] mem Q := by
      intro n
      induction n with
      | zero =>
        intro k hk
        refine v_Mo_onward_19 ⟨fun _ => ?_, fun z => by omega⟩
        rw [tV_s hrem] at hQ
        rw [show k = L by omega]
        exact hQ
      | succ n ih =>
        intro k hk
        obtain ⟨t0, t1⟩ := tst_n (st := st) (j := k) (by omega) (by omega)
        obtain ⟨o1, o2⟩ := ho.2.1 k (by omega)
        have hsb := zsum_b (f := tTm (mem 123) L op st r c) (c := 16777216) k (fun j _ => tTm_b hL8 _ _ _ _)
        have htb := tTm_b (g := mem 123) (L := L) (op := op) hL8 st r c k
        have nx : ∀ x, x = tTm (mem 123) L op st r c k → ∀ x2 : Int, x2 = zadd (zsum (tTm (mem 123) L op st r c) k) x → ∀ x3 : Int, x3 = zadd (k : Int) 1 → zG (d + 3) M_Mo_onward 19 [(2, Int.ofNat 122), (0, p), (0, (st : Int)), (0, x2), (0, x3), (9, 0)] [] mem Q := by
          intro x hx x2 e2 x3 e3
          rw [hx, za (by omega)] at e2
          rw [za (by omega)] at e3
          rw [e2, e3]
          exact ih (k + 1) (by omega)
        have zero : ¬ (st.testBit k = false ∧ tOk (mem 123) r c (op k)) → (0 : Int) = tTm (mem 123) L op st r c k := by
          intro z
          unfold tTm
          rw [if_neg z]
        refine v_Mo_onward_19 ⟨fun z => by omega, fun z => ⟨fun z2 => ⟨by omega, ?_⟩, fun z2 x7 e7 x8 e8 => nx 0 (zero (fun y => ?_)) x7 e7 x8 e8⟩⟩
        · have hb : st.testBit k = false := by
            have : ¬ st.testBit k = true := fun y => z2 (t1.mpr y)
            simpa using this
          rw [Int.toNat_natCast, f2 k (by omega)]
          refine c_Mo_stepped (d := d) h.1 hD ⟨by omega, o1⟩ (fun hm => ?_) (fun hm => ⟨fun y => absurd rfl y, fun _ x4 e4 x5 e5 => nx 0 (zero (fun y => hm ?_)) x4 e4 x5 e5⟩)
          · rw [Int.toNat_natCast] at hm ⊢
            have hok := (h.may hD ho (by omega) hb).mp hm
            obtain ⟨s1, s2, -⟩ := pStep_ok hD h.1 (d := op k) o1
            obtain ⟨e, e1, e2, e3, e4, e5⟩ := step_ix hD ho hs h (show k < L by omega) hok.1
            obtain ⟨u1, u2⟩ := lor_up (show k < L by omega) hs hb
            refine ⟨fun _ => ?_, fun y => by omega⟩
            rw [e4, Int.toNat_natCast]
            have hval := hrt (st ||| 2 ^ k) (by omega) u2 e e1 (by rw [e2, lor_tb]; simp)
            rw [e3, e2] at hval
            rw [hval]
            refine ⟨by omega, nx _ ?_⟩
            unfold tTm
            rw [if_pos ⟨hb, hok⟩]
          · rw [Int.toNat_natCast]
            exact (h.may hD ho (by omega) hb).mpr y.2
        · rw [t1.mp z2] at y
          exact absurd y.1 (by decide)
    exact loop L 0 (by omega)
  · have : st = 2 ^ L - 1 := by omega
    rw [tV_0 (by rw [this]; exact tRem_full)] at hQ
    exact hQ
theorem c_Mo_layTours (hD : gDo (mem 123)) (ho : tOp (mem 123) L op) (hft : fTo mem L op) (hQ : ∀ m' : zMem, tRt m' (mem 123) L op 1 → (∀ c, c ≠ 136 → m' c = mem c) → Q 0 m') : zC (d + 4) K_Mo_layTours [(2, Int.ofNat 122)] mem Q := by
  have hp := pow_L ho.1
  have hL8 := ho.1
  have hp0 : 0 < 2 ^ L := Nat.two_pow_pos _
  obtain ⟨f1, f2⟩ := id hft
  have hN := hD.1
  have outer : ∀ (N st : Nat) (m : zMem), st = N → st ≤ 2 ^ L - 1 → tRt m (mem 123) L op (st + 1) → (∀ c, c ≠ 136 → m c = mem c) → zG (d + 4) M_Mo_layTours 9 [(2, Int.ofNat 122), (0, (st : Int)), (9, 0)] [] m Q := by
    intro N
    induction N with
    | zero =>
      intro st m hst hle hrt hf
      refine v_Mo_layTours_9 ⟨fun _ => hQ m (by rw [hst] at hrt; exact hrt) hf, fun z => by omega⟩
    | succ N ih =>
      intro st m hst hle hrt hf
      refine v_Mo_layTours_9 ⟨fun z => by omega, fun z => ?_⟩
      have inner : ∀ (N2 e : Nat) (m1 : zMem), e + N2 = 2 * L → tRt m1 (mem 123) L op (st + 1) → (∀ e', e' < e → st.testBit (e' / 2) = true → m1 136 (30 * st + e') = tV (mem 123) L op st (gRm (mem 123) (2 * ((op (e' / 2) : Nat) : Int) + ((e' % 2 : Nat) : Int))) (gC (mem 123) (op (e' / 2)))) → (∀ c, c ≠ 136 → m1 c = mem c) → zG (d + 4) M_Mo_layTours 15 [(2, Int.ofNat 122), (0, (st : Int)), (0, (e : Int))] [] m1 Q := by
        intro N2
        induction N2 with
        | zero =>
          intro e m1 he hrt1 h1 hf1
          have e29 : m1 122 29 = (L : Int) := by rw [hf1 122 (by omega)]; exact f1
          refine v_Mo_layTours_15 ?_
          rw [e29, zm (by omega)]
          refine ⟨fun _ x1 ex => ?_, fun z => by omega⟩
          rw [za (by omega)] at ex
          rw [ex, show (st : Int) + -1 = ((st - 1 : Nat) : Int) by omega]
          refine ih (st - 1) m1 (by omega) (by omega) (fun st' hl hs' e' he' hb => ?_) hf1
          by_cases q : st' = st
          · rw [q] at hb ⊢
            exact h1 e' (by omega) hb
          · exact hrt1 st' (by omega) hs' e' he' hb
        | succ N2 ih2 =>
          intro e m1 he hrt1 h1 hf1
          have e29 : m1 122 29 = (L : Int) := by rw [hf1 122 (by omega)]; exact f1
          obtain ⟨t0, t1⟩ := tst_n (st := st) (j := e / 2) (by omega) (by omega)
          refine v_Mo_layTours_15 ?_
          rw [e29, zm (x := 2) (by omega), zm (x := 30) (by omega), za (x := 30 * (st : Int)) (by omega), zd (by omega) (by omega), zr (by omega) (by omega), show (30 * (st : Int) + (e : Int)).toNat = 30 * st + e by omega, show (e : Int) / 2 = ((e / 2 : Nat) : Int) by omega, show (e : Int) % 2 = ((e % 2 : Nat) : Int) by omega]
          have nx : ∀ (v : Int) (m2 m4 : zMem), m2 = m1 → m4 = zup m2 136 (30 * st + e) v → (st.testBit (e / 2) = true → v = tV (mem 123) L op st (gRm (mem 123) (2 * ((op (e / 2) : Nat) : Int) + ((e % 2 : Nat) : Int))) (gC (mem 123) (op (e / 2)))) → ∀ x5 : Int, x5 = zadd (e : Int) 1 → zG (d + 4) M_Mo_layTours 15 [(2, Int.ofNat 122), (0, (st : Int)), (0, x5)] [] m4 Q := by
            intro v m2 m4 hm2 f4 hv x5 e5
            rw [za (by omega)] at e5
            rw [e5]
            rw [hm2] at f4
            refine ih2 (e + 1) m4 (by omega) (fun st' hl hs' e' he' hb => ?_) (fun e' he' hb => ?_) (fun c hc => by rw [← hf1 c hc]; funext j; rw [f4, zup_k hc])
            · rw [f4, zup_j (by omega)]
              exact hrt1 st' hl hs' e' he' hb
            · rw [f4, zup_at]
              by_cases q : e' = e
              · rw [if_pos ⟨rfl, by omega⟩, q]
                rw [q] at hb
                exact hv hb
              · rw [if_neg (by omega)]
                exact h1 e' (by omega) hb
          refine ⟨fun z => by omega, fun z => ⟨fun z2 => ⟨by omega, fun m2 g2 => nx 0 m1 m2 rfl g2 (fun hb => absurd (t1.mpr hb) z2)⟩, fun z2 => ⟨by omega, ?_⟩⟩⟩
          have hb := t1.mp z2
          obtain ⟨o1, o2⟩ := ho.2.1 (e / 2) (by omega)
          have e135 : m1 135 (e / 2) = ((op (e / 2) : Nat) : Int) := by rw [hf1 135 (by omega)]; exact f2 (e / 2) (by omega)
          rw [Int.toNat_natCast, e135]
          refine c_Mo_placeOf (d := d + 2) (by omega) (by omega) (Or.inl rfl) (by omega) ?_
          have hpk : pMk 0 ((op (e / 2) : Nat) : Int) (-4) ((e % 2 : Nat) : Int) = 15 * (2 * ((op (e / 2) : Nat) : Int) + ((e % 2 : Nat) : Int)) := by
            unfold pMk
            rw [if_neg (by omega), if_pos rfl]
            omega
          rw [hpk]
          have e3 : m1 123 = mem 123 := hf1 123 (by omega)
          have hpl := tPl.side hD ho (st := st) (e := e) (by omega) hb
          refine c_Mo_onward (d := d) (mem := m1) (L := L) (op := op) (st := st) (r := gRm (mem 123) (2 * ((op (e / 2) : Nat) : Int) + ((e % 2 : Nat) : Int))) (c := gC (mem 123) (op (e / 2))) (by rw [e3]; exact hD) (by rw [e3]; exact ho) ⟨e29, fun j hj => by rw [hf1 135 (by omega)]; exact f2 j hj⟩ (by omega) (by rw [e3]; exact hrt1) (by rw [e3]; exact hpl) ⟨by omega, fun m4 g4 => nx _ m1 m4 rfl g4 (fun _ => by rw [e3])⟩
      exact inner (2 * L) 0 m (by omega) hrt (fun e' he' => by omega) hf
  refine v_Mo_layTours fun x1 e1 => ?_
  rw [f1, full_z hL8] at e1
  rw [e1]
  exact outer (2 ^ L - 1) (2 ^ L - 1) mem rfl (by omega) (fun st' hl hs' => by omega) (fun _ _ => rfl)
theorem l_Mo_tour (hD : gDo (mem 123)) (ho : tOp (mem 123) L op) (hft : fTo mem L op) (hrt : tRt mem (mem 123) L op 1) {i : Nat} (hi : i < L) (hQ : ∀ st r c dl, tGr (mem 123) L op start (i + 1) st r c dl → Q dl mem) : ∀ (N n : Nat) (st : Nat) (p r c dl : Int), n + N = i + 1 → st < 2 ^ L → tRem L st = L - n → tGr (mem 123) L op start n st r c dl → tPl (mem 123) L op st p r c → 0 < tV (mem 123) L op st r c → zG (d + 3) M_Mo_tour 97 [(2, Int.ofNat 122), (9, 0), (0, (i : Int) + 10), (0, p), (0, (st : Int)), (9, 0), (0, dl), (0, (n : Int)), (9, 0)] [] mem Q := by
  have hp := pow_L ho.1
  have hL8 := ho.1
  obtain ⟨f1, f2⟩ := id hft
  have hN := hD.1
  intro N
  induction N with
  | zero =>
    intro n st p r c dl hn hs hrem hgr hpl hv
    refine v_Mo_tour_97 ?_
    rw [zs (by omega)]
    refine ⟨fun _ => hQ st r c dl (by rw [← show n = i + 1 by omega]; exact hgr), fun z => by omega⟩
  | succ N ih =>
    intro n st p r c dl hn hs hrem hgr hpl hv
    have hrem0 : 0 < tRem L st := by omega
    refine v_Mo_tour_97 ?_
    rw [zs (by omega)]
    refine ⟨fun z => by omega, fun z => ?_⟩
    have hex : ∃ j, j < L ∧ 0 < tTm (mem 123) L op st r c j := by
      refine Classical.byContradiction fun hno => ?_
      rw [tV_s hrem0, zsum_pos L (fun k hk q => hno ⟨k, hk, q⟩) (fun k _ => (tTm_b hL8 _ _ _ _).1)] at hv
      omega
    obtain ⟨j, ⟨hj, hpos⟩, hmin⟩ := pk_least (fun j => j < L ∧ 0 < tTm (mem 123) L op st r c j) hex
    have hcond : st.testBit j = false ∧ tOk (mem 123) r c (op j) := by
      refine Classical.byContradiction fun hh => ?_
      unfold tTm at hpos
      rw [if_neg hh] at hpos
      omega
    have hterm : 0 < tV (mem 123) L op (st ||| 2 ^ j) (gBy (mem 123) (op j) r) (gC (mem 123) (op j)) := by
      unfold tTm at hpos
      rw [if_pos hcond] at hpos
      exact hpos
    have look : ∀ (N2 k : Nat), k + N2 = j → zG (d + 3) M_Mo_tour 109 [(2, Int.ofNat 122), (9, 0), (0, (i : Int) + 10), (0, p), (0, (st : Int)), (9, 0), (9, 0), (0, (n : Int)), (0, (k : Int))] [] mem Q := by
      intro N2
      induction N2 with
      | zero =>
        intro k hk
        have hkj : k = j := by omega
        subst hkj
        obtain ⟨t0, t1⟩ := tst_n (st := st) (j := k) (by omega) (by omega)
        obtain ⟨o1, o2⟩ := ho.2.1 k hj
        have hmay := (hpl.may hD ho hj hcond.1).mpr hcond.2
        obtain ⟨s1, s2, -⟩ := pStep_ok hD hpl.1 (d := op k) o1
        obtain ⟨e, e1, e2, e3, e4, e5⟩ := step_ix hD ho hs hpl hj hcond.2.1
        obtain ⟨u1, u2⟩ := lor_up hj hs hcond.1
        have hval := hrt (st ||| 2 ^ k) (by omega) u2 e e1 (by rw [e2, lor_tb]; simp)
        rw [e3, e2] at hval
        have stp : ∀ Q2 : Int → zMem → Prop, Q2 (pStep (mem 123) p (op k)) mem → zC (d + 2) K_Mo_stepped [(2, Int.ofNat 122), (0, p), (0, ((op k : Nat) : Int))] mem Q2 := by
          intro Q2 hq
          exact c_Mo_stepped (d := d) hpl.1 hD ⟨by omega, o1⟩ (fun _ => by rw [Int.toNat_natCast]; exact hq) (fun y => absurd (by rw [Int.toNat_natCast]; exact hmay) y)
        refine v_Mo_tour_109 ⟨fun y => ?_, fun y => ⟨by omega, ?_⟩⟩
        · rw [t1, hcond.1] at y
          exact absurd y (by decide)
        · rw [Int.toNat_natCast, f2 k hj]
          refine stp _ ⟨fun y2 => by omega, fun _ => ⟨by omega, ?_⟩⟩
          rw [f2 k hj]
          refine stp _ ?_
          rw [e4, Int.toNat_natCast, hval, f2 k hj]
          refine ⟨by omega, fun _ => ⟨by omega, fun x5 e5' => ?_⟩, fun y2 => by omega⟩
          rw [e5']
          refine stp _ (fun x7 e7 x8 e8 => ?_)
          rw [lor_n (by omega) (by omega)] at e7
          rw [za (by omega)] at e8
          rw [e7, e8]
          refine ih (n + 1) (st ||| 2 ^ k) _ (gBy (mem 123) (op k) r) (gC (mem 123) (op k)) _ (by omega) u2 ?_ ?_ (hpl.step hD ho hj) hterm
          · rw [tRem_s hj hcond.1, hrem]; omega
          · exact ⟨st, r, c, dl, hgr, k, hj, hpos, fun i' hi' q => hmin i' hi' ⟨by omega, q⟩, rfl, rfl, rfl, rfl⟩
      | succ N2 ih2 =>
        intro k hk
        have hkL : k < L := by omega
        have hno : ¬ 0 < tTm (mem 123) L op st r c k := fun q => hmin k (by omega) ⟨hkL, q⟩
        have hnn := (tTm_b (g := mem 123) (L := L) (op := op) hL8 st r c k).1
        obtain ⟨t0, t1⟩ := tst_n (st := st) (j := k) (by omega) (by omega)
        obtain ⟨o1, o2⟩ := ho.2.1 k hkL
        have nx : ∀ x1 : Int, x1 = zadd (k : Int) 1 → zG (d + 3) M_Mo_tour 109 [(2, Int.ofNat 122), (9, 0), (0, (i : Int) + 10), (0, p), (0, (st : Int)), (9, 0), (9, 0), (0, (n : Int)), (0, x1)] [] mem Q := by
          intro x1 e1
          rw [za (by omega)] at e1
          rw [e1]
          exact ih2 (k + 1) (by omega)
        refine v_Mo_tour_109 ⟨fun y => nx, fun y => ⟨by omega, ?_⟩⟩
        have hb : st.testBit k = false := by
          have : ¬ st.testBit k = true := fun y2 => y (t1.mpr y2)
          simpa using this
        rw [Int.toNat_natCast, f2 k hkL]
        refine c_Mo_stepped (d := d) hpl.1 hD ⟨by omega, o1⟩ (fun hm => ?_) (fun _ => ⟨fun _ => nx, fun y2 => absurd rfl y2⟩)
        rw [Int.toNat_natCast] at hm ⊢
        have hok := (hpl.may hD ho hkL hb).mp hm
        obtain ⟨s1, s2, -⟩ := pStep_ok hD hpl.1 (d := op k) o1
        refine ⟨fun y2 => by omega, fun _ => ⟨by omega, ?_⟩⟩
        rw [f2 k hkL]
        refine c_Mo_stepped (d := d) hpl.1 hD ⟨by omega, o1⟩ (fun _ => ?_) (fun y2 => absurd (by rw [Int.toNat_natCast]; exact hm) y2)
        rw [Int.toNat_natCast]
        obtain ⟨e, e1, e2, e3, e4, e5⟩ := step_ix hD ho hs hpl hkL hok.1
        obtain ⟨u1, u2⟩ := lor_up hkL hs hb
        have hval := hrt (st ||| 2 ^ k) (by omega) u2 e e1 (by rw [e2, lor_tb]; simp)
        rw [e3, e2] at hval
        rw [e4, Int.toNat_natCast, hval]
        have ht0 : tV (mem 123) L op (st ||| 2 ^ k) (gBy (mem 123) (op k) r) (gC (mem 123) (op k)) = 0 := by
          have : tTm (mem 123) L op st r c k = tV (mem 123) L op (st ||| 2 ^ k) (gBy (mem 123) (op k) r) (gC (mem 123) (op k)) := by
            unfold tTm
            rw [if_pos ⟨hb, hok⟩]
          omega
        exact ⟨by omega, fun y2 => absurd ht0 y2, fun _ => nx⟩
    exact look j 0 (by omega)
theorem T_tour {a c : Int} (hI : Inv mem) (hR : ∀ m', Inv m' → R m') : zC (d + 5) K_Od_tour [(2, Int.ofNat 0), (0, a), (0, c)] mem (fun r1 m1 => zC (d + 5) K_Mo_tour [(2, Int.ofNat 122), (0, a), (0, c)] m1 (fun r2 m2 => (r1 = r2 → R m2) ∧ (r1 ≠ r2 → S m2))) := by
  obtain ⟨⟨w1, w2, w3, w4⟩, hP⟩ := id hI.1
  have h0 : mem 2 0 = mem 122 1 := hP.1.1
  have hge := gOc_le (mem 123) (gN (mem 123)).toNat
  -- the reference, in one piece
  have ref : ∀ (v : Int) (m1 : zMem), (∀ c, c < 87 ∨ 89 < c → m1 c = mem c) → (¬ ((0 ≤ a ∧ a < mem 122 1) ∧ (c = 0 ∨ (10 ≤ c ∧ c ≤ 17))) → v = -1) → ((0 ≤ a ∧ a < mem 122 1) → (c = 0 ∨ (10 ≤ c ∧ c ≤ 17)) → (8 < gOc (mem 123) (gN (mem 123)).toNat → v = -2) ∧ (gOc (mem 123) (gN (mem 123)).toNat ≤ 8 → (c = 0 → v = tV (mem 123) (gOc (mem 123) (gN (mem 123)).toNat).toNat (gOp (mem 123) (gN (mem 123)).toNat) 0 a 4) ∧ (c ≠ 0 → ((gOc (mem 123) (gN (mem 123)).toNat ≤ c - 10 ∨ tV (mem 123) (gOc (mem 123) (gN (mem 123)).toNat).toNat (gOp (mem 123) (gN (mem 123)).toNat) 0 a 4 = 0) → v = -4) ∧ (c - 10 < gOc (mem 123) (gN (mem 123)).toNat → 0 < tV (mem 123) (gOc (mem 123) (gN (mem 123)).toNat).toNat (gOp (mem 123) (gN (mem 123)).toNat) 0 a 4 → ∀ st r c' dl, tGr (mem 123) (gOc (mem 123) (gN (mem 123)).toNat).toNat (gOp (mem 123) (gN (mem 123)).toNat) a ((c - 10).toNat + 1) st r c' dl → v = dl)))) → zC (d + 5) K_Mo_tour [(2, Int.ofNat 122), (0, a), (0, c)] m1 (fun r2 m2 => (v = r2 → R m2) ∧ (v ≠ r2 → S m2)) := by
    intro v m1 hf hv1 hv2
    have hs : zKp mem m1 := zKp.cl (fun k hk => hf k (by omega))
    have e3 : m1 123 = mem 123 := hs.pg
    have e1 := hs.ro
    have same : ∀ x : Int, v = x → (v = x → R m1) ∧ (v ≠ x → S m1) := fun x e => ⟨fun _ => hR m1 (hI.sc hs), fun q => absurd e q⟩
    refine v_Mo_tour (c_Mo_isRoom (d := d + 2) (by rw [e1]; omega) (fun c1 => ⟨fun q => absurd q (by decide), fun _ => ?_⟩) (fun c1 => ⟨fun _ => same _ (hv1 (fun q => c1 (by rw [e1]; exact q.1))), fun q => absurd rfl q⟩))
    rw [e1] at c1
    have go : (c = 0 ∨ (10 ≤ c ∧ c ≤ 17)) → zC (d + 4) K_Mo_layOpens [(2, Int.ofNat 122)] m1 (fun r2 m2 => ((m2 122 29 ≤ 8 → zC (d + 4) K_Mo_layTours [(2, Int.ofNat 122)] m2 (fun r3 m3 => zC (d + 4) K_Mo_newIn [(0, a)] m3 (fun r4 m4 => zC (d + 4) K_Mo_onward [(2, Int.ofNat 122), (0, r4), (0, 0)] m4 (fun r5 m5 => ((c ≠ 0 → ((r5 = 0 → (v = -4 → R m5) ∧ (v ≠ -4 → S m5)) ∧ (r5 ≠ 0 → ((zsub c 10 < m5 122 29 → zG (d + 5) M_Mo_tour 97 [(2, Int.ofNat 122), (9, 0), (0, c), (0, r4), (0, 0), (9, 0), (0, -4), (0, 0), (9, 0)] [] m5 (fun r2 m2 => (v = r2 → R m2) ∧ (v ≠ r2 → S m2))) ∧ (m5 122 29 ≤ zsub c 10 → (v = -4 → R m5) ∧ (v ≠ -4 → S m5)))))) ∧ (c = 0 → (v = r5 → R m5) ∧ (v ≠ r5 → S m5))))))) ∧ (8 < m2 122 29 → (v = -2 → R m2) ∧ (v ≠ -2 → S m2)))) := by
      intro hc
      obtain ⟨hv3, hv4⟩ := hv2 c1 hc
      refine c_Mo_layOpens (d := d + 2) (by rw [e3]; exact w1) (fun m2 g1 g2 g3 g4 => ?_)
      rw [e3] at g1 g2
      have hs2 : zKp m1 m2 := ⟨fun k hk => g3 k (by omega) (by omega), fun k k1 k2 => g3 k (by omega) (by omega), fun k k1 k2 => g3 k (by omega) (by omega), fun j hj => g4 j (by omega)⟩
      rw [g1]
      refine ⟨fun h8 => ?_, fun h8 => ⟨fun _ => hR m2 (hI.sc (hs.trans hs2)), fun q => absurd (hv3 h8) q⟩⟩
      obtain ⟨hv5, hv6⟩ := hv4 h8
      have ho := tOp_of w1 h8
      have e23 : m2 123 = mem 123 := by rw [g3 123 (by omega) (by omega), e3]
      generalize hLe : (gOc (mem 123) (gN (mem 123)).toNat).toNat = L at ho hv5 hv6
      have hLi : gOc (mem 123) (gN (mem 123)).toNat = (L : Int) := by omega
      rw [hLi] at hv6
      have hft : fTo m2 L (gOp (mem 123) (gN (mem 123)).toNat) := by
        refine ⟨by rw [g1, hLi], fun j hj => ?_⟩
        obtain ⟨a1, a2, a3⟩ := gOp_of (g := mem 123) (gN (mem 123)).toNat j (by omega)
        have := g2 (gOp (mem 123) (gN (mem 123)).toNat j) (by have := w1.1; omega) a2
        rw [a3, Int.toNat_natCast] at this
        exact this
      refine c_Mo_layTours (d := d) (mem := m2) (L := L) (by rw [e23]; exact w1) (by rw [e23]; exact ho) hft (fun m3 hrt g5 => c_Mo_newIn (d := d + 2) (by omega) ?_)
      have e33 : m3 123 = mem 123 := by rw [g5 123 (by omega), e23]
      rw [e23] at hrt
      have hs3 : zKp m2 m3 := ⟨fun k hk => g5 k (by omega), fun k k1 k2 => g5 k (by omega), fun k k1 k2 => g5 k (by omega), fun j hj => by rw [g5 122 (by omega)]⟩
      have hft3 : fTo m3 L (gOp (mem 123) (gN (mem 123)).toNat) := ⟨by rw [g5 122 (by omega)]; exact hft.1, fun j hj => by rw [g5 135 (by omega)]; exact hft.2 j hj⟩
      have hpl : tPl (mem 123) L (gOp (mem 123) (gN (mem 123)).toNat) 0 (pNew a) a 4 := tPl.new (by omega)
      have hfin : Inv m3 := hI.sc ((hs.trans hs2).trans hs3)
      have hz : (0 : Int) = ((0 : Nat) : Int) := rfl
      rw [hz]
      refine c_Mo_onward (d := d + 1) (mem := m3) (L := L) (op := gOp (mem 123) (gN (mem 123)).toNat) (st := 0) (r := a) (c := 4) (by rw [e33]; exact w1) (by rw [e33]; exact ho) hft3 (Nat.two_pow_pos _) (by rw [e33]; exact hrt) (by rw [e33]; exact hpl) ?_
      rw [e33]
      have hnn := (tV_b (g := mem 123) (L := L) (op := gOp (mem 123) (gN (mem 123)).toNat) ho.1 0 a 4).1
      refine ⟨fun hc0 => ⟨fun q => ⟨fun _ => hR m3 hfin, fun y => absurd ((hv6 hc0).1 (Or.inr q)) y⟩, fun q => ?_⟩, fun hc0 => ⟨fun _ => hR m3 hfin, fun y => absurd (hv5 hc0) y⟩⟩
      rw [zs (by omega), hft3.1]
      refine ⟨fun y => ?_, fun y => ⟨fun _ => hR m3 hfin, fun y2 => absurd ((hv6 hc0).1 (Or.inl y)) y2⟩⟩
      have key := l_Mo_tour (d := d + 2) (mem := m3) (L := L) (op := gOp (mem 123) (gN (mem 123)).toNat) (start := a) (Q := fun r2 m2 => (v = r2 → R m2) ∧ (v ≠ r2 → S m2)) (by rw [e33]; exact w1) (by rw [e33]; exact ho) hft3 (by rw [e33]; exact hrt) (i := (c - 10).toNat) (by omega) (fun st r c' dl hgr => ?_) ((c - 10).toNat + 1) 0 0 (pNew a) a 4 (-4) (by omega) (Nat.two_pow_pos _) ?_ (by rw [e33]; exact ⟨rfl, rfl, rfl, rfl⟩) (by rw [e33]; exact hpl) (by rw [e33]; omega)
      · rw [show (((c - 10).toNat : Nat) : Int) + 10 = c by omega] at key
        exact key
      · rw [e33] at hgr
        exact ⟨fun _ => hR m3 hfin, fun y2 => absurd ((hv6 hc0).2 y (by omega) st r c' dl hgr) y2⟩
      · have hfull : ∀ n, zct (fun j => Nat.testBit 0 j = false) n = n := by
          intro n
          induction n with
          | zero => rfl
          | succ n ih =>
            rw [zct_y (P := fun j => Nat.testBit 0 j = false) (Nat.zero_testBit _), ih]
            omega
        unfold tRem
        rw [hfull L]
        omega
    refine ⟨fun hc0 => go (Or.inl hc0), fun hc0 => c_Mo_in (d := d + 3) (fun c2 => ⟨fun _ => go (Or.inr c2), fun q => absurd q (by decide)⟩) (fun c2 => ⟨fun q => absurd rfl q, fun _ => same _ (hv1 (fun q => q.2.elim hc0 c2))⟩)⟩
  have fz : ∀ c, c < 87 ∨ 89 < c → mem c = mem c := fun _ _ => rfl
  have bad : ¬ ((0 ≤ a ∧ a < mem 122 1) ∧ (c = 0 ∨ (10 ≤ c ∧ c ≤ 17))) → zC (d + 5) K_Mo_tour [(2, Int.ofNat 122), (0, a), (0, c)] mem (fun r2 m2 => (-1 = r2 → R m2) ∧ (-1 ≠ r2 → S m2)) := fun h => ref (-1) mem fz (fun _ => rfl) (fun q1 q2 => absurd ⟨q1, q2⟩ h)
  have prep : (0 ≤ a ∧ a < mem 122 1) → gOc (mem 123) (gN (mem 123)).toNat ≤ 8 → ∀ Q2 : Int → zMem → Prop, (∀ m', cTo m' (gOc (mem 123) (gN (mem 123)).toNat).toNat (gOp (mem 123) (gN (mem 123)).toNat) a → tRs m' (mem 123) (gOc (mem 123) (gN (mem 123)).toNat).toNat (gOp (mem 123) (gN (mem 123)).toNat) a (mem 122 1) 0 → (∀ c, c < 87 ∨ 89 < c → m' c = mem c) → Q2 0 m') → zC (d + 4) K_To_prepare [(2, Int.ofNat 87), (2, Int.ofNat 2), (0, a)] mem Q2 := fun ha h8 Q2 hq => c_To_prepare (d := d) w1 hP.1 w3 w2 ha h8 hq
  have zero : c = 0 → (0 ≤ a ∧ a < mem 122 1) → zC (d + 4) K_Ho_openDoors [(2, Int.ofNat 2)] mem (fun r2 m2 => ((r2 ≤ 8 → zC (d + 4) K_To_prepare [(2, Int.ofNat 87), (2, Int.ofNat 2), (0, a)] m2 (fun r3 m3 => zC (d + 4) K_To_all [(2, Int.ofNat 87)] m3 (fun r4 m4 => zG (d + 5) M_Od_tour 107 [(9, 0), (9, 0), (9, 0), (9, 0)] [(0, r4)] m4 (fun r1 m1 => zC (d + 5) K_Mo_tour [(2, Int.ofNat 122), (0, a), (0, c)] m1 (fun r2 m2 => (r1 = r2 → R m2) ∧ (r1 ≠ r2 → S m2)))))) ∧ (8 < r2 → zC (d + 5) K_Mo_tour [(2, Int.ofNat 122), (0, a), (0, c)] m2 (fun r2 m2 => (-2 = r2 → R m2) ∧ (-2 ≠ r2 → S m2))))) := by
    intro hc0 ha
    refine c_Ho_openDoors (d := d + 2) (Or.inl rfl) hP.1 w1 ⟨fun h8 => prep ha h8 _ (fun m1 hct hrs hf => v_To_all (v_Od_tour_107 ?_)), fun h8 => ref (-2) mem fz (fun q => absurd ⟨ha, Or.inl hc0⟩ q) (fun _ _ => ⟨fun _ => rfl, fun q => by omega⟩)⟩
    have hall := hrs 0 (by omega) (Nat.two_pow_pos _) 4 (by omega) a ha.1 ha.2 tAt_0
    have hall : m1 89 4 = tV (mem 123) (gOc (mem 123) (gN (mem 123)).toNat).toNat (gOp (mem 123) (gN (mem 123)).toNat) 0 a 4 := hall
    rw [hall]
    exact ref _ m1 hf (fun q => absurd ⟨ha, Or.inl hc0⟩ q) (fun _ _ => ⟨fun q => by omega, fun _ => ⟨fun _ => rfl, fun q => absurd hc0 q⟩⟩)
  have row : (10 ≤ c ∧ c ≤ 17) → (0 ≤ a ∧ a < mem 122 1) → zC (d + 4) K_Ho_openDoors [(2, Int.ofNat 2)] mem (fun r2 m2 => ((r2 ≤ 8 → zC (d + 4) K_To_prepare [(2, Int.ofNat 87), (2, Int.ofNat 2), (0, a)] m2 (fun r3 m3 => zC (d + 4) K_To_stepOf [(2, Int.ofNat 87), (2, Int.ofNat 2), (0, zsub c 10)] m3 (fun r4 m4 => zG (d + 5) M_Od_tour 107 [(9, 0), (9, 0), (9, 0), (9, 0)] [(0, r4)] m4 (fun r1 m1 => zC (d + 5) K_Mo_tour [(2, Int.ofNat 122), (0, a), (0, c)] m1 (fun r2 m2 => (r1 = r2 → R m2) ∧ (r1 ≠ r2 → S m2)))))) ∧ (8 < r2 → zC (d + 5) K_Mo_tour [(2, Int.ofNat 122), (0, a), (0, c)] m2 (fun r2 m2 => (-2 = r2 → R m2) ∧ (-2 ≠ r2 → S m2))))) := by
    intro hc ha
    refine c_Ho_openDoors (d := d + 2) (Or.inl rfl) hP.1 w1 ⟨fun h8 => prep ha h8 _ (fun m1 hct hrs hf => ?_), fun h8 => ref (-2) mem fz (fun q => absurd ⟨ha, Or.inr hc⟩ q) (fun _ _ => ⟨fun _ => rfl, fun q => by omega⟩)⟩
    rw [zs (by omega), show c - 10 = (((c - 10).toNat : Nat) : Int) by omega]
    refine c_To_stepOf (d := d + 1) w1 (hP.1.fr (fun k k1 k2 => hf k (by omega))) w3 w2 (tOp_of w1 h8) hct ha hrs (fun hn => v_Od_tour_107 ?_) (fun hlt hpos st r c' dl hgr => v_Od_tour_107 ?_)
    · refine ref _ m1 hf (fun q => absurd ⟨ha, Or.inr hc⟩ q) (fun _ _ => ⟨fun q => by omega, fun _ => ⟨fun q => by omega, fun _ => ⟨fun _ => rfl, fun y1 y2 => ?_⟩⟩⟩)
      rcases hn with z | z
      · omega
      · omega
    · refine ref _ m1 hf (fun q => absurd ⟨ha, Or.inr hc⟩ q) (fun _ _ => ⟨fun q => by omega, fun _ => ⟨fun q => by omega, fun _ => ⟨fun y => by omega, fun _ _ st' r' c'' dl' hgr' => (tGr_fn _ _ _ _ _ _ _ _ _ hgr hgr').2.2.2⟩⟩⟩)
  refine v_Od_tour ⟨fun c10 => c_Ho_hasRoom (d := d + 3) (Or.inl rfl) (fun ca => ⟨fun q => absurd q (by decide), fun _ => ⟨fun hc0 => zero hc0 (by rw [← h0]; exact ca), fun hc0 => bad (by omega)⟩⟩) (fun ca => ⟨fun _ => bad (fun q => ca (by rw [h0]; exact q.1)), fun q => absurd rfl q⟩), fun c10 => ⟨fun c18 => c_Ho_hasRoom (d := d + 3) (Or.inl rfl) (fun ca => ⟨fun q => absurd q (by decide), fun _ => ⟨fun hc0 => by omega, fun hc0 => bad (by omega)⟩⟩) (fun ca => ⟨fun _ => bad (fun q => ca (by rw [h0]; exact q.1)), fun q => absurd rfl q⟩), fun c18 => c_Ho_hasRoom (d := d + 3) (Or.inl rfl) (fun ca => ⟨fun q => absurd q (by decide), fun _ => ⟨fun hc0 => by omega, fun hc0 => row ⟨c10, by omega⟩ (by rw [← h0]; exact ca)⟩⟩) (fun ca => ⟨fun _ => bad (fun q => ca (by rw [h0]; exact q.1)), fun q => absurd rfl q⟩)⟩⟩
end
