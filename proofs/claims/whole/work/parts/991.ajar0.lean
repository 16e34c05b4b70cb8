section
/-! ajar: ways counted. -/
variable {g : zPg} {S S' U U' : Nat → Bool} {pl r : Int} {n k b : Nat} {F F' : Int → Int}
theorem zsum_s (f : Nat → Int) (n : Nat) : zsum f (n + 1) = zsum f n + f n := rfl
theorem zsum_z {f : Nat → Int} : ∀ n, (∀ k, k < n → f k = 0) → zsum f n = 0
  | 0, _ => rfl
  | n + 1, h => by rw [zsum_s, zsum_z n (fun k hk => h k (by omega)), h n (by omega)]; rfl
theorem zsum_sub (f f' : Nat → Int) : ∀ n, zsum (fun k => f k - f' k) n = zsum f n - zsum f' n
  | 0 => rfl
  | n + 1 => by rw [zsum_s, zsum_s, zsum_s, zsum_sub f f' n]; omega
theorem zsum_ad2 (f f' : Nat → Int) : ∀ n, zsum (fun k => f k + f' k) n = zsum f n + zsum f' n
  | 0 => rfl
  | n + 1 => by rw [zsum_s, zsum_s, zsum_s, zsum_ad2 f f' n]; omega
theorem zsum_ge {f : Nat → Int} : ∀ n, (∀ k, k < n → 0 ≤ f k) → 0 ≤ zsum f n
  | 0, _ => by show (0 : Int) ≤ 0; omega
  | n + 1, h => by
    have := zsum_ge n (fun k hk => h k (by omega))
    have := h n (by omega)
    rw [zsum_s]; omega
theorem zsum_ge1 {f : Nat → Int} {k : Nat} : ∀ n, (∀ k, k < n → 0 ≤ f k) → k < n → f k ≤ zsum f n
  | 0, _, h => by omega
  | n + 1, h, hk => by
    have h1 := zsum_ge n (fun k hk => h k (by omega))
    have h2 := h n (by omega)
    rw [zsum_s]
    by_cases e : k = n
    · rw [e]; omega
    · have := zsum_ge1 n (fun k hk => h k (by omega)) (k := k) (by omega)
      omega
theorem zsum_sw2 (f : Nat → Nat → Int) (N : Nat) : ∀ M, zsum (fun r => zsum (fun k => f r k) N) M = zsum (fun k => zsum (fun r => f r k) M) N
  | 0 => (zsum_z N (fun k _ => rfl)).symm
  | M + 1 => by
    rw [zsum_s, zsum_sw2 f N M, ← zsum_ad2]
    rfl
theorem zsum_up {f : Nat → Int} {a : Nat} {x : Int} : ∀ n, zsum (fun k => if k = a then f k + x else f k) n = zsum f n + (if a < n then x else 0)
  | 0 => by rw [if_neg (by omega)]; rfl
  | n + 1 => by
    rw [zsum_s, zsum_s, zsum_up n]
    by_cases e : n = a
    · rw [if_pos e, if_neg (by omega), if_pos (by omega)]; omega
    · rw [if_neg e]
      by_cases h : a < n
      · rw [if_pos h, if_pos (by omega)]; omega
      · rw [if_neg h, if_neg (by omega)]; omega
def rmB (U : Nat → Bool) (d : Nat) : Nat → Bool := fun k => U k && !(k == d)
theorem rmB_e (U : Nat → Bool) (d : Nat) : rmB U d d = false := by unfold rmB; simp
theorem rmB_n (U : Nat → Bool) {d k : Nat} (h : k ≠ d) : rmB U d k = U k := by unfold rmB; simp [h]
theorem rmB_rm (U : Nat → Bool) (d : Nat) : rmB (rmB U d) d = rmB U d := by
  funext k
  by_cases e : k = d
  · rw [e, rmB_e, rmB_e]
  · rw [rmB_n _ e]
theorem rmB_cm (U : Nat → Bool) (d e : Nat) : rmB (rmB U d) e = rmB (rmB U e) d := by
  funext k
  unfold rmB
  cases U k <;> cases (k == d) <;> cases (k == e) <;> rfl
def emB (U : Nat → Bool) : Prop := ∀ k, k < 14 → U k = false
/-- the weight of all the ways of n steps by doors of S that use all of U -/
noncomputable def cn (g : zPg) (S : Nat → Bool) (F : Int → Int) : Nat → (Nat → Bool) → Int → Int
  | 0, U, pl => @ite Int (emB U) (Classical.propDecidable _) (F pl) 0
  | n + 1, U, pl => zsum (fun k => @ite Int (S k = true ∧ pMay g pl k) (Classical.propDecidable _) (cn g S F n (rmB U k) (pStep g pl k)) 0) (gN g).toNat
theorem cn_0 : cn g S F 0 U pl = @ite Int (emB U) (Classical.propDecidable _) (F pl) 0 := rfl
theorem cn_s : cn g S F (n + 1) U pl = zsum (fun k => @ite Int (S k = true ∧ pMay g pl k) (Classical.propDecidable _) (cn g S F n (rmB U k) (pStep g pl k)) 0) (gN g).toNat := rfl
theorem cn_ie {b : Nat} (hb : b < 14) : ∀ (n : Nat) (U : Nat → Bool) (pl : Int), U b = true → cn g S F n U pl = cn g S F n (rmB U b) pl - cn g (rmB S b) F n (rmB U b) pl
  | 0, U, pl, hU => by
    rw [cn_0, cn_0, cn_0, if_neg (fun h => by rw [h b hb] at hU; exact absurd hU (by decide))]
    omega
  | n + 1, U, pl, hU => by
    rw [cn_s, cn_s, cn_s, ← zsum_sub]
    refine zsum_cg _ (fun k hk => ?_)
    show _ = _ - _
    by_cases h : S k = true ∧ pMay g pl k
    · rw [if_pos h, if_pos h]
      by_cases e : k = b
      · rw [e, rmB_rm, if_neg (fun z => by rw [rmB_e] at z; exact absurd z.1 (by decide))]
        omega
      · rw [if_pos ⟨by rw [rmB_n _ e]; exact h.1, h.2⟩, cn_ie hb n (rmB U k) _ (by rw [rmB_n _ (Ne.symm e)]; exact hU), rmB_cm U k b]
    · rw [if_neg h, if_neg h, if_neg (fun z => h ⟨?_, z.2⟩)]
      · rfl
      · have := z.1
        unfold rmB at this
        simp at this
        exact this.1
theorem cn_ge (hF : ∀ p, 0 ≤ F p) : ∀ (n : Nat) (U : Nat → Bool) (pl : Int), 0 ≤ cn g S F n U pl
  | 0, U, pl => by
    rw [cn_0]
    split
    · exact hF pl
    · omega
  | n + 1, U, pl => by
    rw [cn_s]
    refine zsum_ge _ (fun k hk => ?_)
    split
    · exact cn_ge hF n _ _
    · omega
theorem cn_cg (hF : ∀ p, pOK g p → F p = F' p) (hD : gDo g) : ∀ (n : Nat) (U : Nat → Bool) (pl : Int), pOK g pl → cn g S F n U pl = cn g S F' n U pl
  | 0, U, pl, h => by rw [cn_0, cn_0, hF pl h]
  | n + 1, U, pl, h => by
    rw [cn_s, cn_s]
    refine zsum_cg _ (fun k hk => ?_)
    by_cases q : S k = true ∧ pMay g pl k
    · rw [if_pos q, if_pos q]
      refine cn_cg hF hD n _ _ ?_
      have : pRe g (fun x => x = pl) (pStep g pl k) := (pRe.seed (sd := fun x => x = pl) rfl).step q.2
      exact this.ok hD (fun p hp => by rw [hp]; exact h)
    · rw [if_neg q, if_neg q]
theorem cn_sum (Fr : Nat → Int → Int) (M : Nat) : ∀ (n : Nat) (U : Nat → Bool) (pl : Int), zsum (fun r => cn g S (Fr r) n U pl) M = cn g S (fun p => zsum (fun r => Fr r p) M) n U pl
  | 0, U, pl => by
    rw [cn_0]
    by_cases h : emB U
    · rw [if_pos h]
      exact zsum_cg M (fun k _ => by rw [cn_0, if_pos h])
    · rw [if_neg h]
      exact zsum_z M (fun k _ => by rw [cn_0, if_neg h])
  | n + 1, U, pl => by
    rw [cn_s]
    have : zsum (fun r => cn g S (Fr r) (n + 1) U pl) M = zsum (fun r => zsum (fun k => @ite Int (S k = true ∧ pMay g pl k) (Classical.propDecidable _) (cn g S (Fr r) n (rmB U k) (pStep g pl k)) 0) (gN g).toNat) M := rfl
    rw [this, zsum_sw2]
    refine zsum_cg _ (fun k hk => ?_)
    by_cases q : S k = true ∧ pMay g pl k
    · rw [if_pos q, ← cn_sum Fr M n]
      exact zsum_cg M (fun r _ => by rw [if_pos q])
    · rw [if_neg q]
      exact zsum_z M (fun r _ => by rw [if_neg q])
theorem zsum_c {f : Nat → Int} {c : Int} : ∀ n, (∀ k, k < n → f k ≤ c) → zsum f n ≤ n * c
  | 0, _ => by show (0 : Int) ≤ _; rw [show ((0 : Nat) : Int) = 0 from rfl, Int.zero_mul]; omega
  | n + 1, h => by
    have h1 := zsum_c n (fun k hk => h k (by omega))
    have h2 := h n (by omega)
    rw [zsum_s, show ((n + 1 : Nat) : Int) = (n : Int) + 1 by omega, Int.add_mul]
    omega
theorem cn_le (hF : ∀ p, F p ≤ 1) (hN : gN g ≤ 14) : ∀ (n : Nat) (U : Nat → Bool) (pl : Int), cn g S F n U pl ≤ 14 ^ n
  | 0, U, pl => by
    rw [cn_0]
    split
    · exact hF pl
    · show (0 : Int) ≤ 1; omega
  | n + 1, U, pl => by
    rw [cn_s]
    have hp : (0 : Int) ≤ 14 ^ n := Int.pow_nonneg (by omega)
    have := zsum_c (c := (14 : Int) ^ n) (f := fun k => @ite Int (S k = true ∧ pMay g pl k) (Classical.propDecidable _) (cn g S F n (rmB U k) (pStep g pl k)) 0) (gN g).toNat (fun k hk => by
      split
      · exact cn_le hF hN n _ _
      · exact hp)
    refine Int.le_trans this ?_
    rw [Int.pow_succ, Int.mul_comm]
    exact Int.mul_le_mul_of_nonneg_left (by omega) hp
theorem zct_rm (U : Nat → Bool) (d : Nat) : ∀ n, zct (fun k => U k = true) n ≤ zct (fun k => rmB U d k = true) n + (if d < n then 1 else 0)
  | 0 => by rw [if_neg (by omega)]; exact Int.le_refl _
  | n + 1 => by
    have ih := zct_rm U d n
    by_cases e : n = d
    · rw [zct_n (P := fun k => rmB U d k = true) (n := n) (by rw [e, rmB_e]; decide), if_pos (by omega)]
      rw [if_neg (by omega)] at ih
      by_cases q : U n = true
      · rw [zct_y (P := fun k => U k = true) q]; omega
      · rw [zct_n (P := fun k => U k = true) q]; omega
    · have e2 : (if d < n then (1 : Int) else 0) = if d < n + 1 then 1 else 0 := by
        by_cases q : d < n
        · rw [if_pos q, if_pos (by omega)]
        · rw [if_neg q, if_neg (by omega)]
      rw [e2] at ih
      by_cases q : U n = true
      · rw [zct_y (P := fun k => U k = true) q, zct_y (P := fun k => rmB U d k = true) (by rw [rmB_n _ e]; exact q)]; omega
      · rw [zct_n (P := fun k => U k = true) q, zct_n (P := fun k => rmB U d k = true) (by rw [rmB_n _ e]; exact q)]; omega
theorem emB_ct : emB U ↔ zct (fun k => U k = true) 14 ≤ 0 := by
  constructor
  · intro h
    have := zct_le (P := fun k => U k = true) (P' := fun _ => False) 14 (fun k hk q => by rw [h k hk] at q; exact absurd q (by decide))
    have e := zct_up (P := fun _ => False) (m := 0) 14 (by omega) (fun k _ _ q => q)
    rw [e] at this
    exact this
  · intro h k hk
    by_cases q : U k = true
    · have := zct_lt (P := fun _ => False) (P' := fun k => U k = true) (k0 := k) 14 (fun _ _ z => z.elim) hk (fun z => z) q
      have := (zct_b (fun _ => False) 14).1
      omega
    · simpa using q
theorem cn_few : ∀ (n : Nat) (U : Nat → Bool) (pl : Int), (n : Int) < zct (fun k => U k = true) 14 → cn g S F n U pl = 0
  | 0, U, pl, h => by
    rw [cn_0, if_neg (fun q => by have := emB_ct.mp q; omega)]
  | n + 1, U, pl, h => by
    rw [cn_s]
    refine zsum_z _ (fun k hk => ?_)
    split
    · refine cn_few n _ _ ?_
      have := zct_rm U k 14
      have e : (if k < 14 then (1 : Int) else 0) ≤ 1 := by split <;> omega
      omega
    · rfl
/-! Sets in a set, one after another. -/
def LR (U : Nat) (f : Nat → Nat → Int) : Nat → Nat → (Nat → Int) → Prop
  | 0, x, v => x = 0 ∧ v = f 0
  | c + 1, x, v => (x = 0 ∧ v = f 0) ∨ (x ≠ 0 ∧ ∃ v', LR U f c ((x - 1) &&& U) v' ∧ v = fun r => f x r + v' r)
theorem LR.stop {U : Nat} {f : Nat → Nat → Int} : LR U f 0 0 (f 0) := ⟨rfl, rfl⟩
theorem LR.more {U : Nat} {f : Nat → Nat → Int} {c x : Nat} {v : Nat → Int} (hx : x ≠ 0) (h : LR U f c ((x - 1) &&& U) v) : LR U f (c + 1) x (fun r => f x r + v r) := Or.inr ⟨hx, v, h, rfl⟩
def SS : Nat → Nat → (Nat → Nat → Int) → Nat → Int
  | 0, _, f => f 0
  | j + 1, U, f => SS j (U / 2) (fun t r => if U % 2 = 1 then f (2 * t + 1) r + f (2 * t) r else f (2 * t) r)
theorem and_11 (a b : Nat) : (2 * a + 1) &&& (2 * b + 1) = 2 * (a &&& b) + 1 := by
  apply Nat.eq_of_testBit_eq
  intro i
  cases i with
  | zero => simp [Nat.testBit_zero]
  | succ i => rw [Nat.testBit_and, Nat.testBit_add_one, Nat.testBit_add_one, Nat.testBit_add_one, show (2 * a + 1) / 2 = a by omega, show (2 * b + 1) / 2 = b by omega, show (2 * (a &&& b) + 1) / 2 = a &&& b by omega, Nat.testBit_and]
theorem and_01 (a b : Nat) : (2 * a) &&& (2 * b + 1) = 2 * (a &&& b) := by
  apply Nat.eq_of_testBit_eq
  intro i
  cases i with
  | zero => simp [Nat.testBit_zero]
  | succ i => rw [Nat.testBit_and, Nat.testBit_add_one, Nat.testBit_add_one, Nat.testBit_add_one, show (2 * a) / 2 = a by omega, show (2 * b + 1) / 2 = b by omega, show (2 * (a &&& b)) / 2 = a &&& b by omega, Nat.testBit_and]
theorem and_10 (a b : Nat) : (2 * a + 1) &&& (2 * b) = 2 * (a &&& b) := by
  rw [Nat.and_comm, and_01, Nat.and_comm]
theorem LR_1 {U : Nat} {f : Nat → Nat → Int} : ∀ (c x : Nat) (v : Nat → Int), LR U (fun t r => f (2 * t + 1) r + f (2 * t) r) c x v → x &&& U = x → ∃ c', LR (2 * U + 1) f c' (2 * x + 1) v := by
  have h0 : ∃ c', LR (2 * U + 1) f c' (2 * 0 + 1) (fun r => f (2 * 0 + 1) r + f (2 * 0) r) := by
    refine ⟨_, LR.more (c := 0) (by omega) ?_⟩
    rw [show (2 * 0 + 1 - 1) &&& (2 * U + 1) = 0 by simp]
    exact LR.stop
  intro c
  induction c with
  | zero =>
    rintro x v ⟨rfl, rfl⟩ _
    exact h0
  | succ c ih =>
    rintro x v (⟨rfl, rfl⟩ | ⟨hx, v', h, rfl⟩) hs
    · exact h0
    have hs' : ((x - 1) &&& U) &&& U = (x - 1) &&& U := by rw [Nat.and_assoc, Nat.and_self]
    obtain ⟨c', i1⟩ := ih _ _ h hs'
    have h2 : LR (2 * U + 1) f (c' + 1) (2 * x) (fun r => f (2 * x) r + v' r) := by
      refine LR.more (by omega) ?_
      rw [show 2 * x - 1 = 2 * (x - 1) + 1 by omega, and_11]
      exact i1
    have h3 : LR (2 * U + 1) f (c' + 1 + 1) (2 * x + 1) (fun r => f (2 * x + 1) r + (f (2 * x) r + v' r)) := by
      refine LR.more (by omega) ?_
      rw [show 2 * x + 1 - 1 = 2 * x by omega, and_01, hs]
      exact h2
    have e : (fun r => f (2 * x + 1) r + (f (2 * x) r + v' r)) = fun r => (f (2 * x + 1) r + f (2 * x) r) + v' r := by funext r; omega
    rw [e] at h3
    exact ⟨_, h3⟩
theorem LR_0 {U : Nat} {f : Nat → Nat → Int} : ∀ (c x : Nat) (v : Nat → Int), LR U (fun t r => f (2 * t) r) c x v → LR (2 * U) f c (2 * x) v := by
  intro c
  induction c with
  | zero =>
    rintro x v ⟨rfl, rfl⟩
    exact ⟨rfl, rfl⟩
  | succ c ih =>
    rintro x v (⟨rfl, rfl⟩ | ⟨hx, v', h, rfl⟩)
    · exact Or.inl ⟨rfl, rfl⟩
    · refine LR.more (by omega) ?_
      rw [show 2 * x - 1 = 2 * (x - 1) + 1 by omega, and_10]
      exact ih _ _ h
theorem LR_SS : ∀ (j U : Nat) (f : Nat → Nat → Int), U < 2 ^ j → ∃ c, LR U f c U (SS j U f)
  | 0, U, f, h => by
    rw [show U = 0 by simpa using h]
    exact ⟨0, LR.stop⟩
  | j + 1, U, f, h => by
    obtain ⟨c, ih⟩ := LR_SS j (U / 2) (fun t r => if U % 2 = 1 then f (2 * t + 1) r + f (2 * t) r else f (2 * t) r) (by rw [Nat.pow_succ] at h; omega)
    show ∃ c, LR U f c U (SS j (U / 2) _)
    by_cases e : U % 2 = 1
    · have := LR_1 (f := f) (U := U / 2) c (U / 2) (SS j (U / 2) (fun t r => if U % 2 = 1 then f (2 * t + 1) r + f (2 * t) r else f (2 * t) r)) (by
        have e2 : (fun t r => if U % 2 = 1 then f (2 * t + 1) r + f (2 * t) r else f (2 * t) r) = fun t r => f (2 * t + 1) r + f (2 * t) r := by funext t r; rw [if_pos e]
        rw [e2] at ih ⊢
        exact ih) (Nat.and_self _)
      rw [show 2 * (U / 2) + 1 = U by omega] at this
      exact this
    · have := LR_0 (f := f) (U := U / 2) c (U / 2) (SS j (U / 2) (fun t r => if U % 2 = 1 then f (2 * t + 1) r + f (2 * t) r else f (2 * t) r)) (by
        have e2 : (fun t r => if U % 2 = 1 then f (2 * t + 1) r + f (2 * t) r else f (2 * t) r) = fun t r => f (2 * t) r := by funext t r; rw [if_neg e]
        rw [e2] at ih ⊢
        exact ih)
      rw [show 2 * (U / 2) = U by omega] at this
      exact ⟨c, this⟩
def sg (j t : Nat) : Int := if npc j t % 2 = 0 then 1 else -1
theorem npc_s (j t c : Nat) (hc : c < 2) : npc (j + 1) (2 * t + c) = npc j t + c := by
  induction j with
  | zero =>
    show 0 + (if (2 * t + c).testBit 0 = true then 1 else 0) = 0 + c
    rw [Nat.testBit_zero]
    have : c = 0 ∨ c = 1 := by omega
    rcases this with rfl | rfl
    · simp
    · simp
  | succ j ih =>
    show npc (j + 1) (2 * t + c) + (if (2 * t + c).testBit (j + 1) = true then 1 else 0) = npc j t + (if t.testBit j = true then 1 else 0) + c
    rw [ih, Nat.testBit_add_one, show (2 * t + c) / 2 = t by omega]
    omega
theorem sg_s (j t : Nat) : sg (j + 1) (2 * t) = sg j t ∧ sg (j + 1) (2 * t + 1) = - sg j t := by
  unfold sg
  have h0 := npc_s j t 0 (by omega)
  have h1 := npc_s j t 1 (by omega)
  simp only [Nat.add_zero] at h0
  rw [h0, h1]
  refine ⟨rfl, ?_⟩
  by_cases e : npc j t % 2 = 0
  · rw [if_pos e, if_neg (by omega)]
  · rw [if_neg e, if_pos (by omega)]; rfl
/-- the doors of S but those told by t from the i-th on -/
def lsB (S : Nat → Bool) (i t : Nat) : Nat → Bool := fun k => S k && !(decide (i ≤ k) && t.testBit (k - i))
def loB (U i : Nat) : Nat → Bool := fun k => U.testBit k && decide (k < i)
theorem SS_cn (Fr : Nat → Int → Int) {U0 n : Nat} (hU : U0 < 2 ^ 14) : ∀ (j i : Nat), i + j = 14 → SS j (U0 / 2 ^ i) (fun t r => sg j t * cn g (lsB S i t) (Fr r) n (loB U0 i) pl) = fun r => cn g S (Fr r) n (fun k => U0.testBit k) pl
  | 0, i, h => by
    funext r
    show sg 0 0 * cn g (lsB S i 0) (Fr r) n (loB U0 i) pl = _
    have e1 : lsB S i 0 = S := by funext k; unfold lsB; simp
    have e2 : loB U0 i = fun k => U0.testBit k := by
      funext k
      unfold loB
      by_cases q : k < i
      · simp [q]
      · have : U0.testBit k = false := Nat.testBit_lt_two_pow (Nat.lt_of_lt_of_le hU (Nat.pow_le_pow_right (by decide) (by omega)))
        simp [this]
    rw [e1, e2, show sg 0 0 = 1 by decide, Int.one_mul]
  | j + 1, i, h => by
    have ih := SS_cn (n := n) Fr hU j (i + 1) (by omega)
    show SS j (U0 / 2 ^ i / 2) _ = _
    rw [Nat.div_div_eq_div_mul, ← Nat.pow_succ, ← ih]
    congr 1
    funext t r
    have hb : U0 / 2 ^ i % 2 = 1 ↔ U0.testBit i = true := by
      rw [Nat.testBit_eq_decide_div_mod_eq, decide_eq_true_iff]
    have e0 : lsB S i (2 * t) = lsB S (i + 1) t := by
      funext k
      unfold lsB
      by_cases q : i ≤ k
      · by_cases q2 : k = i
        · rw [q2]; simp
        · rw [show k - i = (k - (i + 1)) + 1 by omega, Nat.testBit_add_one, show 2 * t / 2 = t by omega]
          simp [q, show i + 1 ≤ k by omega]
      · simp [q, show ¬ i + 1 ≤ k by omega]
    have e1 : lsB S i (2 * t + 1) = rmB (lsB S (i + 1) t) i := by
      funext k
      by_cases q2 : k = i
      · rw [q2, rmB_e]; unfold lsB; simp
      · rw [rmB_n _ q2]
        unfold lsB
        by_cases q : i ≤ k
        · rw [show k - i = (k - (i + 1)) + 1 by omega, Nat.testBit_add_one, show (2 * t + 1) / 2 = t by omega]
          simp [q, show i + 1 ≤ k by omega]
        · simp [q, show ¬ i + 1 ≤ k by omega]
    have e2 : rmB (loB U0 (i + 1)) i = loB U0 i := by
      funext k
      by_cases q2 : k = i
      · rw [q2, rmB_e]; unfold loB; simp
      · rw [rmB_n _ q2]
        unfold loB
        by_cases q : k < i
        · simp [q, show k < i + 1 by omega]
        · simp [q, show ¬ k < i + 1 by omega]
    obtain ⟨s0, s1⟩ := sg_s j t
    by_cases q : U0 / 2 ^ i % 2 = 1
    · rw [if_pos q]
      dsimp only
      rw [s0, s1, e0, e1]
      have hi := cn_ie (g := g) (S := lsB S (i + 1) t) (F := Fr r) (b := i) (by omega) n (loB U0 (i + 1)) pl (by unfold loB; rw [hb.mp q]; simp)
      rw [e2] at hi
      rw [hi, Int.mul_sub, Int.neg_mul]
      omega
    · rw [if_neg q]
      dsimp only
      rw [s0, e0]
      have e3 : loB U0 (i + 1) = loB U0 i := by
        funext k
        unfold loB
        by_cases q2 : k = i
        · rw [q2]
          have : U0.testBit i = false := by
            have := fun z => q (hb.mpr z)
            simpa using this
          simp [this]
        · by_cases q3 : k < i
          · simp [q3, show k < i + 1 by omega]
          · simp [q3, show ¬ k < i + 1 by omega]
      rw [e3]
end
