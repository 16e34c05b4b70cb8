section
/-! The reference's first methods, over its page 'mem 123' and its rooms 'mem 122 1'. -/
variable {d : Nat} {mem : zMem} {Q : Int → zMem → Prop}
theorem zlcmp_v {x y : Int} (hx : zJ x) (hy : zJ y) : zlcmp x y = if x < y then -1 else if x = y then 0 else 1 := by
  unfold zlcmp lg_cmp
  have e1 : (Int64.ofInt y < Int64.ofInt x) ↔ y < x := by rw [Int64.lt_iff_toInt_lt, zJ_to hx, zJ_to hy]
  have e2 : (Int64.ofInt x < Int64.ofInt y) ↔ x < y := by rw [Int64.lt_iff_toInt_lt, zJ_to hx, zJ_to hy]
  have e3 : (Int64.ofInt x = Int64.ofInt y) ↔ x = y := by rw [← Int64.toInt_inj, zJ_to hx, zJ_to hy]
  simp only [e1, e2, e3]
  rcases (show x < y ∨ x = y ∨ y < x by omega) with h | h | h
  · simp [h, show ¬ y < x by omega, show ¬ x = y by omega]
  · simp [h]
  · simp [h, show ¬ x < y by omega, show ¬ x = y by omega]
theorem c_Mo_in {v lo hi : Int} (hQ1 : lo ≤ v ∧ v ≤ hi → Q 1 mem) (hQ0 : ¬ (lo ≤ v ∧ v ≤ hi) → Q 0 mem) : zC (d + 1) K_Mo_in [(1, v), (1, lo), (1, hi)] mem Q := by
  refine zC.rg fun ha _ => ?_
  have h1 : zJ v := zoh ha
  have h2 : zJ lo := zoh (zot ha)
  have h3 : zJ hi := zoh (zot (zot ha))
  refine v_Mo_in ?_
  rw [zlcmp_v h1 h2, zlcmp_v h1 h3]
  refine ⟨fun c => hQ0 ?_, fun c => ⟨fun c2 => hQ0 ?_, fun c2 => hQ1 ?_⟩⟩
  · intro q; rw [if_neg (by omega)] at c; split at c <;> omega
  · intro q
    split at c2
    · omega
    · split at c2 <;> omega
  · constructor
    · split at c <;> omega
    · split at c2
      · omega
      · split at c2 <;> omega
theorem c_Mo_doorMany (hQ : Q (mem 123 56) mem) : zC (d + 1) K_Mo_doorMany [(2, Int.ofNat 122)] mem Q := v_Mo_doorMany hQ
theorem c_Mo_ones (hQ : Q (mem 123 72) mem) : zC (d + 1) K_Mo_ones [(2, Int.ofNat 122)] mem Q := v_Mo_ones hQ
theorem c_Mo_isRoom (hr : 0 ≤ mem 122 1) {r : Int} (hQ1 : 0 ≤ r ∧ r < mem 122 1 → Q 1 mem) (hQ0 : ¬ (0 ≤ r ∧ r < mem 122 1) → Q 0 mem) : zC (d + 2) K_Mo_isRoom [(2, Int.ofNat 122), (0, r)] mem Q := by
  refine zC.rg fun _ hrg => ?_
  have hz := zrg_i hrg (k := 122) (by decide) 1
  unfold zI at hz
  have e : zsub (mem 122 1) 1 = mem 122 1 - 1 := zsub_n (by unfold zI; omega)
  refine v_Mo_isRoom ?_
  rw [e]
  exact c_Mo_in (d := d) (fun q => ⟨Or.inr rfl, hQ1 (by omega)⟩) (fun q => ⟨Or.inl rfl, hQ0 (by omega)⟩)
theorem c_Mo_isDoor (hr : 0 ≤ mem 123 56) {r : Int} (hQ1 : 0 ≤ r ∧ r < mem 123 56 → Q 1 mem) (hQ0 : ¬ (0 ≤ r ∧ r < mem 123 56) → Q 0 mem) : zC (d + 2) K_Mo_isDoor [(2, Int.ofNat 122), (0, r)] mem Q := by
  refine zC.rg fun _ hrg => ?_
  have hz := zrg_i hrg (k := 123) (by decide) 56
  unfold zI at hz
  have e : zsub (mem 123 56) 1 = mem 123 56 - 1 := zsub_n (by unfold zI; omega)
  refine v_Mo_isDoor (c_Mo_doorMany (d := d) ?_)
  rw [e]
  exact c_Mo_in (d := d) (fun q => ⟨Or.inr rfl, hQ1 (by omega)⟩) (fun q => ⟨Or.inl rfl, hQ0 (by omega)⟩)
theorem c_Mo_isOne (hr : 0 ≤ mem 123 72) {r : Int} (hQ1 : 0 ≤ r ∧ r < mem 123 72 → Q 1 mem) (hQ0 : ¬ (0 ≤ r ∧ r < mem 123 72) → Q 0 mem) : zC (d + 2) K_Mo_isOne [(2, Int.ofNat 122), (0, r)] mem Q := by
  refine zC.rg fun _ hrg => ?_
  have hz := zrg_i hrg (k := 123) (by decide) 72
  unfold zI at hz
  have e : zsub (mem 123 72) 1 = mem 123 72 - 1 := zsub_n (by unfold zI; omega)
  refine v_Mo_isOne (c_Mo_ones (d := d) ?_)
  rw [e]
  exact c_Mo_in (d := d) (fun q => ⟨Or.inr rfl, hQ1 (by omega)⟩) (fun q => ⟨Or.inl rfl, hQ0 (by omega)⟩)
/-! Places. -/
def pMk (room last bef side : Int) : Int := 15 * (if last = -4 then 28 + room else 2 * last + side) + (if bef = -4 then 0 else bef + 1)
def pE (pl : Int) : Int := pl / 15
def pR (g : zPg) (pl : Int) : Int := if 28 ≤ pl / 15 then pl / 15 - 28 else g (4 * (pl / 15 / 2) + pl / 15 % 2).toNat
def pL (pl : Int) : Int := if 28 ≤ pl / 15 then -4 else pl / 30
def pB (pl : Int) : Int := pl % 15 - 1
/-- a place that somebody can be at -/
def pOK (g : zPg) (pl : Int) : Prop := 0 ≤ pl ∧ pl < 570 ∧ (28 ≤ pl / 15 → pl % 15 = 0) ∧ (pl / 15 < 28 → pl / 30 < gN g)
def pStep (g : zPg) (pl : Int) (k : Nat) : Int := pMk 0 k (if gL g = 1 then pL pl else -4) (if gA g k = pR g pl then 1 else 0)
theorem c_Mo_placeOf {room last bef side : Int} (h1 : 0 ≤ room ∧ room < 10) (h2 : last = -4 ∨ (0 ≤ last ∧ last < 14)) (h3 : bef = -4 ∨ (0 ≤ bef ∧ bef < 14)) (h4 : 0 ≤ side ∧ side < 2) (hQ : Q (pMk room last bef side) mem) : zC (d + 1) K_Mo_placeOf [(0, room), (0, last), (0, bef), (0, side)] mem Q := by
  unfold pMk at hQ
  refine v_Mo_placeOf ⟨fun c => ⟨fun c2 => ?_, fun c2 => ?_⟩, fun c => ⟨fun c2 => ?_, fun c2 => ?_⟩⟩
  · rw [if_neg c, if_neg c2] at hQ
    rw [zmul_n (x := 2) (by unfold zI; omega), zadd_n (x := 2 * last) (by unfold zI; omega), zmul_n (by unfold zI; omega), zadd_n (x := bef) (by unfold zI; omega), zadd_n (by unfold zI; omega)]
    exact hQ
  · rw [if_neg c, if_pos c2] at hQ
    rw [zmul_n (x := 2) (by unfold zI; omega), zadd_n (x := 2 * last) (by unfold zI; omega), zmul_n (by unfold zI; omega), zadd_n (by unfold zI; omega)]
    exact hQ
  · rw [if_pos c, if_neg c2] at hQ
    rw [zadd_n (x := 28) (by unfold zI; omega), zmul_n (by unfold zI; omega), zadd_n (x := bef) (by unfold zI; omega), zadd_n (by unfold zI; omega)]
    exact hQ
  · rw [if_pos c, if_pos c2] at hQ
    rw [zadd_n (x := 28) (by unfold zI; omega), zmul_n (by unfold zI; omega), zadd_n (by unfold zI; omega)]
    exact hQ
theorem c_Mo_roomAt {pl : Int} (h : 0 ≤ pl ∧ pl < 570) (hQ : Q (pR (mem 123) pl) mem) : zC (d + 1) K_Mo_roomAt [(2, Int.ofNat 122), (0, pl)] mem Q := by
  refine v_Mo_roomAt (fun x1 e1 => ?_)
  rw [zdiv_n (by unfold zI; omega) (by unfold zI; omega) h.1 (by decide)] at e1
  unfold pR at hQ
  refine ⟨fun c => ?_, fun c => ?_⟩
  · rw [if_neg (by omega)] at hQ
    rw [zdiv_n (x := x1) (by unfold zI; omega) (by unfold zI; omega) (by omega) (by decide), zrem_n (x := x1) (by unfold zI; omega) (by unfold zI; omega) (by omega) (by decide), zmul_n (by unfold zI; omega), zadd_n (by unfold zI; omega), e1]
    exact ⟨by omega, hQ⟩
  · rw [if_pos (by omega)] at hQ
    rw [zsub_n (by unfold zI; omega), e1]
    exact hQ
theorem c_Mo_lastAt {pl : Int} (h : 0 ≤ pl ∧ pl < 570) (hQ : Q (pL pl) mem) : zC (d + 1) K_Mo_lastAt [(0, pl)] mem Q := by
  unfold pL at hQ
  refine v_Mo_lastAt ?_
  rw [zdiv_n (x := pl) (by unfold zI; omega) (by unfold zI; omega) h.1 (by decide), zdiv_n (x := pl) (y := 30) (by unfold zI; omega) (by unfold zI; omega) h.1 (by decide)]
  refine ⟨fun c => ?_, fun c => ?_⟩
  · rw [if_neg (by omega)] at hQ; exact hQ
  · rw [if_pos (by omega)] at hQ; exact hQ
/-- the doors of a place -/
def pMay (g : zPg) (pl : Int) (k : Nat) : Prop := gMay g (pR g pl) (pL pl) (pB pl) k
theorem l_stepped_162 {pl k : Int} (hp : 0 ≤ pl ∧ pl < 570) (hl : pL pl = -4 ∨ (0 ≤ pL pl ∧ pL pl < 14)) (hk : 0 ≤ k ∧ k < 14) (hQ : Q (pStep (mem 123) pl k.toNat) mem) : zG (d + 2) M_Mo_stepped 162 [(2, Int.ofNat 122), (9, 0), (0, k), (0, pR (mem 123) pl), (0, pL pl), (9, 0), (0, gL (mem 123)), (9, 0), (9, 0), (9, 0)] [] mem Q := by
  have e4 : zmul 4 k = 4 * k := zmul_n (by unfold zI; omega)
  have ea : gA (mem 123) k.toNat = mem 123 (4 * k).toNat := by unfold gA; congr 1; omega
  unfold pStep at hQ
  rw [Int.toNat_of_nonneg hk.1] at hQ
  refine v_Mo_stepped_162 ?_
  rw [e4, ← ea]
  refine ⟨by omega, fun c => ⟨fun c2 => ?_, fun c2 => ?_⟩, fun c => ⟨fun c2 => ?_, fun c2 => ?_⟩⟩
  · rw [if_neg c2, if_neg c] at hQ
    exact v_Mo_stepped_196 (c_Mo_placeOf (d := d) (by omega) (by omega) (by omega) (by omega) hQ)
  · rw [if_pos c2, if_neg c] at hQ
    exact v_Mo_stepped_196 (c_Mo_placeOf (d := d) (by omega) (by omega) (by omega) (by omega) hQ)
  · rw [if_neg c2, if_pos c] at hQ
    exact v_Mo_stepped_196 (c_Mo_placeOf (d := d) (by omega) (by omega) (by omega) (by omega) hQ)
  · rw [if_pos c2, if_pos c] at hQ
    exact v_Mo_stepped_196 (c_Mo_placeOf (d := d) (by omega) (by omega) (by omega) (by omega) hQ)
theorem c_Mo_stepped {pl k : Int} (hp : pOK (mem 123) pl) (hD : gDo (mem 123)) (hk : 0 ≤ k ∧ k < gN (mem 123)) (hQ1 : pMay (mem 123) pl k.toNat → Q (pStep (mem 123) pl k.toNat) mem) (hQ0 : ¬ pMay (mem 123) pl k.toNat → Q (-4) mem) : zC (d + 2) K_Mo_stepped [(2, Int.ofNat 122), (0, pl), (0, k)] mem Q := by
  obtain ⟨p0, p1, p2, p3⟩ := hp
  have hN := hD.1
  have hX := (hD.2.2 k.toNat (by omega)).2.2.2.2
  have hl : pL pl = -4 ∨ (0 ≤ pL pl ∧ pL pl < gN (mem 123)) := by unfold pL; split <;> omega
  refine v_Mo_stepped (c_Mo_roomAt (d := d) ⟨p0, p1⟩ (c_Mo_lastAt (d := d) ⟨p0, p1⟩ (fun x3 e3 x4 e4 => ?_)))
  rw [zrem_n (by unfold zI; omega) (by unfold zI; omega) p0 (by decide), zsub_n (by unfold zI; omega)] at e3
  have f0 : zmul 4 k = 4 * k := zmul_n (by unfold zI; omega)
  have f1 : zadd (4 * k) 1 = 4 * k + 1 := zadd_n (by unfold zI; omega)
  have f2 : zadd (4 * k) 2 = 4 * k + 2 := zadd_n (by unfold zI; omega)
  have f3 : zadd (4 * k) 3 = 4 * k + 3 := zadd_n (by unfold zI; omega)
  have ea : mem 123 (4 * k).toNat = gA (mem 123) k.toNat := by unfold gA; congr 1; omega
  have eb : mem 123 (4 * k + 1).toNat = gB (mem 123) k.toNat := by unfold gB; congr 1; omega
  have ec : mem 123 (4 * k + 2).toNat = gC (mem 123) k.toNat := by unfold gC; congr 1; omega
  have ex : mem 123 (4 * k + 3).toNat = gX (mem 123) k.toNat := by unfold gX; congr 1; omega
  have eL : mem 123 73 = gL (mem 123) := rfl
  rw [eL] at e4
  -- behind the last join
  have k133 : ∀ (b s : Int), (b = 0 ∨ b = 1) → (s = 0 ∨ s = 1) → (b = 1 ↔ (gA (mem 123) k.toNat = pR (mem 123) pl ∨ gB (mem 123) k.toNat = pR (mem 123) pl)) → (s = 1 ↔ gBar (mem 123) (pL pl) (pB pl) k.toNat) →
      zG (d + 2) M_Mo_stepped 133 [(2, Int.ofNat 122), (9, 0), (0, k), (0, pR (mem 123) pl), (0, pL pl), (9, 0), (0, x4), (0, b), (9, 0), (9, 0)] [(0, s)] mem Q := by
    intro b s hb hs hbi hsi
    have hmay : pMay (mem 123) pl k.toNat ↔ (b = 1 ∧ gX (mem 123) k.toNat = 0 ∧ s = 0) := by
      unfold pMay gMay
      rw [show (s = 0) ↔ ¬ gBar (mem 123) (pL pl) (pB pl) k.toNat by rw [← hsi]; omega]
      unfold gO
      rw [hbi]
      constructor
      · rintro ⟨⟨-, q2, q3⟩, q4⟩; exact ⟨q3, q2, q4⟩
      · rintro ⟨q3, q2, q4⟩; exact ⟨⟨by omega, q2, q3⟩, q4⟩
    refine v_Mo_stepped_133 ?_
    rw [f0, f3, ex]
    refine ⟨fun c => hQ0 (by rw [hmay]; omega), fun c => ⟨by omega, fun c2 => hQ0 (by rw [hmay]; omega), fun c2 => ⟨fun c3 => ?_, fun c3 => hQ0 (by rw [hmay]; omega)⟩⟩⟩
    rw [e4]
    exact l_stepped_162 ⟨p0, p1⟩ (by omega) (by omega) (hQ1 (by rw [hmay]; omega))
  have k60 : ∀ (b : Int), (b = 0 ∨ b = 1) → (b = 1 ↔ (gA (mem 123) k.toNat = pR (mem 123) pl ∨ gB (mem 123) k.toNat = pR (mem 123) pl)) →
      zG (d + 2) M_Mo_stepped 60 [(2, Int.ofNat 122), (9, 0), (0, k), (0, pR (mem 123) pl), (0, pL pl), (0, x3), (0, x4), (9, 0), (9, 0), (9, 0)] [(0, b)] mem Q := by
    intro b hb hbi
    have h5 : x3 = pB pl := e3
    have hnew : pL pl = -4 → pB pl = -1 := by unfold pL pB; split <;> omega
    have hcl : 0 ≤ pL pl → zmul 4 (pL pl) = 4 * pL pl ∧ zadd (4 * pL pl) 2 = 4 * pL pl + 2 ∧ mem 123 (4 * pL pl + 2).toNat = gC (mem 123) (pL pl).toNat := by
      intro q
      refine ⟨zmul_n (by unfold zI; omega), zadd_n (by unfold zI; omega), ?_⟩
      unfold gC; congr 1; omega
    have two : x4 = 2 → ((pL pl = -4 → zG (d + 2) M_Mo_stepped 133 [(2, Int.ofNat 122), (9, 0), (0, k), (0, pR (mem 123) pl), (0, pL pl), (9, 0), (0, x4), (0, b), (9, 0), (9, 0)] [(0, 0)] mem Q) ∧ (pL pl ≠ -4 → ((0 ≤ zadd (zmul 4 k) 2 ∧ zadd (zmul 4 k) 2 < 264) ∧ ((0 ≤ zadd (zmul 4 (pL pl)) 2 ∧ zadd (zmul 4 (pL pl)) 2 < 264) ∧ ((mem 123 (zadd (zmul 4 k) 2).toNat ≠ mem 123 (zadd (zmul 4 (pL pl)) 2).toNat → zG (d + 2) M_Mo_stepped 133 [(2, Int.ofNat 122), (9, 0), (0, k), (0, pR (mem 123) pl), (0, pL pl), (9, 0), (0, x4), (0, b), (9, 0), (9, 0)] [(0, 0)] mem Q) ∧ (mem 123 (zadd (zmul 4 k) 2).toNat = mem 123 (zadd (zmul 4 (pL pl)) 2).toNat → zG (d + 2) M_Mo_stepped 133 [(2, Int.ofNat 122), (9, 0), (0, k), (0, pR (mem 123) pl), (0, pL pl), (9, 0), (0, x4), (0, b), (9, 0), (9, 0)] [(0, 1)] mem Q)))))) := by
      intro c6
      refine ⟨fun c7 => k133 b 0 hb (Or.inl rfl) hbi (by unfold gBar; omega), fun c7 => ?_⟩
      obtain ⟨r1, r2, r3⟩ := hcl (by omega)
      rw [f0, f2, r1, r2, r3, ec]
      exact ⟨by omega, by omega, fun c8 => k133 b 0 hb (Or.inl rfl) hbi (by unfold gBar; omega), fun c8 => k133 b 1 hb (Or.inr rfl) hbi (by unfold gBar; omega)⟩
    refine v_Mo_stepped_60 ⟨fun c1 => ⟨fun c2 => ⟨fun c3 => k133 b 0 hb (Or.inl rfl) hbi (by unfold gBar; omega), fun c3 => two c3⟩, fun c2 => ⟨fun c3 => k133 b 1 hb (Or.inr rfl) hbi (by unfold gBar; omega), fun c3 => ⟨fun c4 => k133 b 1 hb (Or.inr rfl) hbi ?_, fun c4 => ⟨fun c5 => k133 b 0 hb (Or.inl rfl) hbi (by unfold gBar; omega), fun c5 => by omega⟩⟩⟩⟩, fun c1 => ?_⟩
    · unfold gBar; omega
    · refine ⟨fun c2 => k133 b 1 hb (Or.inr rfl) hbi (by unfold gBar; omega), fun c2 => ⟨fun c3 => ⟨fun c4 => k133 b 0 hb (Or.inl rfl) hbi (by unfold gBar; omega), fun c4 => by omega⟩, fun c3 => by omega⟩⟩
  rw [f0, f1, ea, eb]
  exact ⟨by omega, fun c => k60 1 (Or.inr rfl) (by omega), fun c => ⟨by omega, fun c2 => k60 0 (Or.inl rfl) (by omega), fun c2 => k60 1 (Or.inr rfl) (by omega)⟩⟩
end
