section
/-! tour: in how many ways one goes on; the doors that are not walled up, by their order. -/
variable {d w : Nat} {mem m m' m2 : zMem} {Q : Int → zMem → Prop} {R S : zMem → Prop} {g g' : zPg} {rm pl r t u p : Int} {k s L : Nat} {op : Nat → Nat}
/-- the open doors by their order -/
def gOp (g : zPg) : Nat → Nat → Nat
  | 0, _ => 0
  | n + 1, j => if gX g n = 0 ∧ gOc g n = (j : Int) then n else gOp g n j
theorem gOp_at : ∀ n d : Nat, d < n → gX g d = 0 → gOp g n (gOc g d).toNat = d
  | 0, d, h, _ => absurd h (Nat.not_lt_zero _)
  | n + 1, d, h, hx => by
    have h1 := gOc_le g d
    show (if _ then _ else _) = _
    by_cases e : d = n
    · rw [e] at hx h1 ⊢
      rw [if_pos ⟨hx, by omega⟩]
    · have h2 := gOc_mono g n (m := d + 1) (by omega)
      have h3 : gOc g (d + 1) = gOc g d + (if gX g d = 0 then 1 else 0) := rfl
      rw [if_pos hx] at h3
      rw [if_neg (by omega)]
      exact gOp_at n d (by omega) hx
theorem gOp_of : ∀ n j : Nat, (j : Int) < gOc g n → gOp g n j < n ∧ gX g (gOp g n j) = 0 ∧ gOc g (gOp g n j) = j
  | 0, j, h => by
    have : (j : Int) < 0 := h
    omega
  | n + 1, j, h => by
    have h3 : gOc g (n + 1) = gOc g n + (if gX g n = 0 then 1 else 0) := rfl
    have e : gOp g (n + 1) j = if gX g n = 0 ∧ gOc g n = (j : Int) then n else gOp g n j := rfl
    rw [e]
    by_cases q : gX g n = 0 ∧ gOc g n = (j : Int)
    · rw [if_pos q]
      exact ⟨by omega, q.1, q.2⟩
    · rw [if_neg q]
      have hj : (j : Int) < gOc g n := by
        by_cases z : gX g n = 0
        · rw [if_pos z] at h3
          have : gOc g n ≠ (j : Int) := fun y => q ⟨z, y⟩
          omega
        · rw [if_neg z] at h3
          omega
      obtain ⟨a1, a2, a3⟩ := gOp_of n j hj
      exact ⟨by omega, a2, a3⟩
/-- a row of doors, as both sides lay it -/
def tOp (g : zPg) (L : Nat) (op : Nat → Nat) : Prop := L ≤ 8 ∧ (∀ j, j < L → ((op j : Nat) : Int) < gN g ∧ gX g (op j) = 0) ∧ ∀ i j, i < L → j < L → op i = op j → i = j
theorem tOp_of (hD : gDo g) (h : gOc g (gN g).toNat ≤ 8) : tOp g (gOc g (gN g).toNat).toNat (gOp g (gN g).toNat) := by
  have hN := hD.1
  have h0 := gOc_le g (gN g).toNat
  refine ⟨by omega, fun j hj => ?_, fun i j hi hj e => ?_⟩
  · obtain ⟨a1, a2, a3⟩ := gOp_of (g := g) (gN g).toNat j (by omega)
    exact ⟨by omega, a2⟩
  · obtain ⟨a1, a2, a3⟩ := gOp_of (g := g) (gN g).toNat i (by omega)
    obtain ⟨b1, b2, b3⟩ := gOp_of (g := g) (gN g).toNat j (by omega)
    rw [e] at a3
    omega
/-- one may go on by a door, from a room, having come by a colour -/
def tOk (g : zPg) (r c : Int) (k : Nat) : Prop := (gA g k = r ∨ gB g k = r) ∧ ¬ (gL g = 2 ∧ gC g k = c)
noncomputable def tW (g : zPg) (L : Nat) (op : Nat → Nat) : Nat → Nat → Int → Int → Int
  | 0, _, _, _ => 1
  | f + 1, st, r, c => zsum (fun j => @ite Int (st.testBit j = false ∧ tOk g r c (op j)) (Classical.propDecidable _) (tW g L op f (st ||| 2 ^ j) (gBy g (op j) r) (gC g (op j))) 0) L
noncomputable def tRem (L st : Nat) : Int := zct (fun j => st.testBit j = false) L
noncomputable def tV (g : zPg) (L : Nat) (op : Nat → Nat) (st : Nat) (r c : Int) : Int := tW g L op (tRem L st).toNat st r c
/-- what door j adds -/
noncomputable def tTm (g : zPg) (L : Nat) (op : Nat → Nat) (st : Nat) (r c : Int) (j : Nat) : Int := @ite Int (st.testBit j = false ∧ tOk g r c (op j)) (Classical.propDecidable _) (tV g L op (st ||| 2 ^ j) (gBy g (op j) r) (gC g (op j))) 0
theorem lor_tb {st j i : Nat} : (st ||| 2 ^ j).testBit i = (st.testBit i || decide (j = i)) := by
  rw [Nat.testBit_or, Nat.testBit_two_pow]
theorem tRem_s {st j : Nat} (hj : j < L) (h : st.testBit j = false) : tRem L (st ||| 2 ^ j) = tRem L st - 1 := by
  unfold tRem
  have key : ∀ n, zct (fun i => (st ||| 2 ^ j).testBit i = false) n = zct (fun i => st.testBit i = false) n - (if j < n then 1 else 0) := by
    intro n
    induction n with
    | zero => rfl
    | succ n ih =>
      by_cases e : j = n
      · subst e
        rw [zct_y (P := fun i => st.testBit i = false) h, zct_n (P := fun i => (st ||| 2 ^ j).testBit i = false) (by rw [lor_tb]; simp), ih, if_neg (by omega), if_pos (by omega)]
        omega
      · by_cases q : st.testBit n = false
        · rw [zct_y (P := fun i => st.testBit i = false) q, zct_y (P := fun i => (st ||| 2 ^ j).testBit i = false) (by rw [lor_tb, q]; simp [e]), ih]
          by_cases z : j < n
          · rw [if_pos z, if_pos (by omega)]; omega
          · rw [if_neg z, if_neg (by omega)]; omega
        · rw [zct_n (P := fun i => st.testBit i = false) q, zct_n (P := fun i => (st ||| 2 ^ j).testBit i = false) (by rw [lor_tb]; simp at q; simp [q]), ih]
          by_cases z : j < n
          · rw [if_pos z, if_pos (by omega)]
          · rw [if_neg z, if_neg (by omega)]
  rw [key L, if_pos hj]
theorem tV_s {st : Nat} (h : 0 < tRem L st) : tV g L op st r t = zsum (tTm g L op st r t) L := by
  unfold tV
  obtain ⟨f, hf⟩ : ∃ f, (tRem L st).toNat = f + 1 := ⟨(tRem L st).toNat - 1, by omega⟩
  rw [hf]
  show zsum _ L = zsum _ L
  refine zsum_cg L (fun j hj => ?_)
  unfold tTm
  by_cases q : st.testBit j = false ∧ tOk g r t (op j)
  · rw [if_pos q, if_pos q]
    unfold tV
    rw [tRem_s hj q.1, show (tRem L st - 1).toNat = f by omega]
  · rw [if_neg q, if_neg q]
theorem tV_0 {st : Nat} (h : tRem L st = 0) : tV g L op st r t = 1 := by
  unfold tV
  rw [h]
  rfl
theorem tW_b (hL : L ≤ 8) : ∀ (f st : Nat) (r c : Int), f ≤ 8 → 0 ≤ tW g L op f st r c ∧ tW g L op f st r c ≤ ((8 ^ f : Nat) : Int)
  | 0, st, r, c, _ => by
    show (0 : Int) ≤ 1 ∧ (1 : Int) ≤ ((8 ^ 0 : Nat) : Int)
    decide
  | f + 1, st, r, c, h => by
    have hb := zsum_b (f := fun j => @ite Int (st.testBit j = false ∧ tOk g r c (op j)) (Classical.propDecidable _) (tW g L op f (st ||| 2 ^ j) (gBy g (op j) r) (gC g (op j))) 0) (c := ((8 ^ f : Nat) : Int)) L (fun j _ => by
      by_cases q : st.testBit j = false ∧ tOk g r c (op j)
      · rw [if_pos q]
        exact tW_b hL f _ _ _ (by omega)
      · rw [if_neg q]
        exact ⟨Int.le_refl _, Int.natCast_nonneg _⟩)
    show 0 ≤ zsum _ L ∧ zsum _ L ≤ _
    refine ⟨hb.1, Int.le_trans hb.2 ?_⟩
    rw [Nat.pow_succ]
    have h1 : (L : Int) * ((8 ^ f : Nat) : Int) ≤ 8 * ((8 ^ f : Nat) : Int) := Int.mul_le_mul_of_nonneg_right (by omega) (Int.natCast_nonneg _)
    have h2 : ((8 ^ f * 8 : Nat) : Int) = 8 * ((8 ^ f : Nat) : Int) := by rw [Int.natCast_mul, Int.mul_comm]; rfl
    rw [h2]
    exact h1
theorem tV_b (hL : L ≤ 8) (st : Nat) (r c : Int) : 0 ≤ tV g L op st r c ∧ tV g L op st r c ≤ 16777216 := by
  unfold tV
  have h1 := zct_b (fun j => st.testBit j = false) L
  have h2 : (tRem L st).toNat ≤ 8 := by unfold tRem; omega
  obtain ⟨a, b⟩ := tW_b (g := g) (op := op) hL (tRem L st).toNat st r c h2
  refine ⟨a, Int.le_trans b ?_⟩
  have := Nat.pow_le_pow_right (n := 8) (by decide) h2
  have h3 : (8 : Nat) ^ 8 = 16777216 := by decide
  generalize 8 ^ (tRem L st).toNat = P at this
  omega
theorem tTm_b (hL : L ≤ 8) (st : Nat) (r c : Int) (j : Nat) : 0 ≤ tTm g L op st r c j ∧ tTm g L op st r c j ≤ 16777216 := by
  unfold tTm
  by_cases q : st.testBit j = false ∧ tOk g r c (op j)
  · rw [if_pos q]; exact tV_b hL _ _ _
  · rw [if_neg q]; omega
theorem tRem_full : tRem L (2 ^ L - 1) = 0 := by
  unfold tRem
  have := zct_up (P := fun j => (2 ^ L - 1).testBit j = false) (m := 0) L (by omega) (fun k _ hk => by
    rw [Nat.testBit_two_pow_sub_one]
    simp [hk])
  rw [this]
  rfl
theorem tRem_pos {st : Nat} (h : st < 2 ^ L - 1) : 0 < tRem L st := by
  have hb := zct_b (fun j => st.testBit j = false) L
  refine Classical.byContradiction fun q => ?_
  have h0 : tRem L st = 0 := by unfold tRem at q ⊢; omega
  have hall : ∀ j, j < L → st.testBit j = true := by
    intro j hj
    refine Classical.byContradiction fun z => ?_
    have := zct_lt (P := fun _ => False) (P' := fun j => st.testBit j = false) (k0 := j) L (fun _ _ y => y.elim) hj (fun y => y) (by simpa using z)
    have h1 := zct_b (fun _ => False) L
    unfold tRem at h0
    omega
  have : st = 2 ^ L - 1 := by
    apply Nat.eq_of_testBit_eq
    intro i
    rw [Nat.testBit_two_pow_sub_one]
    rcases Nat.lt_or_ge i L with z | z
    · rw [hall i z]; simp [z]
    · rw [Nat.testBit_lt_two_pow (Nat.lt_of_lt_of_le (show st < 2 ^ L by omega) (Nat.pow_le_pow_right (by decide) z))]
      simp; omega
  omega
theorem lor_up {st j : Nat} (hj : j < L) (hs : st < 2 ^ L) (h : st.testBit j = false) : st < st ||| 2 ^ j ∧ st ||| 2 ^ j < 2 ^ L := by
  have h1 : st ||| 2 ^ j < 2 ^ L := Nat.or_lt_two_pow hs (Nat.pow_lt_pow_right (by decide) hj)
  refine ⟨?_, h1⟩
  have h2 : st ≤ st ||| 2 ^ j := Nat.left_le_or
  rcases Nat.lt_or_ge st (st ||| 2 ^ j) with q | q
  · exact q
  · have e : st = st ||| 2 ^ j := by omega
    have h3 : (st ||| 2 ^ j).testBit j = true := by rw [lor_tb]; simp
    rw [← e, h] at h3
    exact absurd h3 (by decide)
/-! where one is behind some doors: each room but the first and the last one has an even number of door ends -/
def tOb (g : zPg) (op : Nat → Nat) (start : Int) (st k : Nat) : Nat → Bool
  | 0 => decide ((k : Int) = start)
  | j + 1 => tOb g op start st k j ^^ (st.testBit j && (decide ((k : Int) = gA g (op j)) ^^ decide ((k : Int) = gB g (op j))))
theorem tOb_lor {start : Int} {st k j : Nat} (h : st.testBit j = false) : ∀ n, tOb g op start (st ||| 2 ^ j) k n = (tOb g op start st k n ^^ (decide (j < n) && (decide ((k : Int) = gA g (op j)) ^^ decide ((k : Int) = gB g (op j)))))
  | 0 => by
    show decide _ = (decide _ ^^ _)
    simp
  | n + 1 => by
    have ih := tOb_lor (start := start) (k := k) h n
    show (tOb g op start (st ||| 2 ^ j) k n ^^ _) = ((tOb g op start st k n ^^ _) ^^ _)
    rw [ih, lor_tb]
    by_cases e : j = n
    · subst e
      rw [h]
      simp
    · have e1 : decide (j < n + 1) = decide (j < n) := by
        apply decide_eq_decide.mpr
        omega
      rw [e1]
      have e2 : decide (j = n) = false := by simp [e]
      rw [e2, Bool.or_false]
      cases tOb g op start st k n <;> cases (st.testBit n) <;> cases (decide (j < n)) <;> cases (decide ((k : Int) = gA g (op j))) <;> cases (decide ((k : Int) = gB g (op j))) <;> cases (decide ((k : Int) = gA g (op n))) <;> cases (decide ((k : Int) = gB g (op n))) <;> rfl
/-- one is in room r behind the doors -/
def tAt (g : zPg) (L : Nat) (op : Nat → Nat) (start : Int) (st : Nat) (r : Int) : Prop := ∀ k : Nat, k < 32 → (tOb g op start st k L = true ↔ (k : Int) = r)
theorem tAt_step {start : Int} {st j : Nat} (hD : gDo g) (ho : tOp g L op) (hj : j < L) (h : st.testBit j = false) (hr : tAt g L op start st r) (hd : gA g (op j) = r ∨ gB g (op j) = r) : tAt g L op start (st ||| 2 ^ j) (gBy g (op j) r) := by
  intro k hk
  obtain ⟨-, -, dab, -⟩ := hD.2.2 (op j) (ho.2.1 j hj).1
  have h1 := hr k hk
  rw [tOb_lor h L]
  have e1 : decide (j < L) = true := by simp [hj]
  rw [e1, Bool.true_and]
  unfold gBy
  by_cases q : gA g (op j) = r
  · rw [if_pos q]
    by_cases z : (k : Int) = r
    · have : tOb g op start st k L = true := h1.mpr z
      rw [this, q]
      have h2 : ¬ (k : Int) = gB g (op j) := by omega
      simp [z]
    · have : tOb g op start st k L = false := by
        cases y : tOb g op start st k L
        · rfl
        · exact absurd (h1.mp y) z
      rw [this, q]
      simp [z]
  · have hB := hd.resolve_left q
    rw [if_neg q]
    by_cases z : (k : Int) = r
    · have : tOb g op start st k L = true := h1.mpr z
      rw [this, hB]
      simp [z]
    · have : tOb g op start st k L = false := by
        cases y : tOb g op start st k L
        · rfl
        · exact absurd (h1.mp y) z
      rw [this, hB]
      simp [z]
theorem tAt_0 {start : Int} : tAt g L op start 0 start := by
  intro k _
  have : ∀ n, tOb g op start 0 k n = decide ((k : Int) = start) := by
    intro n
    induction n with
    | zero => rfl
    | succ n ih =>
      show (tOb g op start 0 k n ^^ (Nat.testBit 0 n && _)) = _
      rw [ih, Nat.zero_testBit]
      simp
  rw [this L, decide_eq_true_iff]
theorem tAt_fn {start : Int} {st : Nat} {r' : Int} (h : tAt g L op start st r) (h' : tAt g L op start st r') (hr : 0 ≤ r ∧ r < 32) : r = r' := by
  have h1 := (h r.toNat (by omega)).mpr (by omega)
  have := (h' r.toNat (by omega)).mp h1
  omega
/-- the first tour by doors -/
def tGr (g : zPg) (L : Nat) (op : Nat → Nat) (start : Int) : Nat → Nat → Int → Int → Int → Prop
  | 0, st, r, c, dl => st = 0 ∧ r = start ∧ c = 4 ∧ dl = -4
  | n + 1, st', r', c', dl' => ∃ st r c dl, tGr g L op start n st r c dl ∧ ∃ j, j < L ∧ 0 < tTm g L op st r c j ∧ (∀ i, i < j → ¬ 0 < tTm g L op st r c i) ∧ st' = st ||| 2 ^ j ∧ r' = gBy g (op j) r ∧ c' = gC g (op j) ∧ dl' = ((op j : Nat) : Int)
theorem tGr_fn {start : Int} : ∀ (n : Nat) (st : Nat) (r c dl : Int) (st' : Nat) (r' c' dl' : Int), tGr g L op start n st r c dl → tGr g L op start n st' r' c' dl' → st = st' ∧ r = r' ∧ c = c' ∧ dl = dl'
  | 0, st, r, c, dl, st', r', c', dl', h, h' => by
    obtain ⟨a1, a2, a3, a4⟩ := h
    obtain ⟨b1, b2, b3, b4⟩ := h'
    exact ⟨by rw [a1, b1], by rw [a2, b2], by rw [a3, b3], by rw [a4, b4]⟩
  | n + 1, st, r, c, dl, st', r', c', dl', h, h' => by
    obtain ⟨s1, r1, c1, d1, h1, j, j1, j2, j3, e1, e2, e3, e4⟩ := h
    obtain ⟨s2, r2, c2, d2, h2, i, i1, i2, i3, f1, f2, f3, f4⟩ := h'
    obtain ⟨q1, q2, q3, q4⟩ := tGr_fn n s1 r1 c1 d1 s2 r2 c2 d2 h1 h2
    subst q1; subst q2; subst q3
    have : j = i := by
      rcases Nat.lt_trichotomy j i with z | z | z
      · exact absurd j2 (i3 j z)
      · exact z
      · exact absurd i2 (j3 i z)
    subst this
    exact ⟨by rw [e1, f1], by rw [e2, f2], by rw [e3, f3], by rw [e4, f4]⟩
theorem zsum_pos {f : Nat → Int} : ∀ n, (∀ k, k < n → ¬ 0 < f k) → (∀ k, k < n → 0 ≤ f k) → zsum f n = 0
  | 0, _, _ => rfl
  | n + 1, h, h' => by
    show zsum f n + f n = 0
    rw [zsum_pos n (fun k hk => h k (by omega)) (fun k hk => h' k (by omega))]
    have h1 := h n (by omega)
    have h2 := h' n (by omega)
    omega
end
