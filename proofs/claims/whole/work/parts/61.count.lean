section
variable {d w : Nat} {mem m' m2 : zMem} {Q : Int → zMem → Prop} {R S : zMem → Prop} {g g' : zPg} {rm : Int}
/-- how many of the first doors are open -/
def gOc (g : zPg) : Nat → Int
  | 0 => 0
  | n + 1 => gOc g n + (if gX g n = 0 then 1 else 0)
theorem gOc_le (g : zPg) : ∀ n, 0 ≤ gOc g n ∧ gOc g n ≤ n
  | 0 => ⟨Int.le_refl _, Int.le_refl _⟩
  | n + 1 => by
    have := gOc_le g n
    unfold gOc
    split <;> omega
theorem gOc_mono (g : zPg) {m : Nat} : ∀ n, m ≤ n → gOc g m ≤ gOc g n
  | 0, h => by rw [show m = 0 by omega]; exact Int.le_refl _
  | n + 1, h => by
    by_cases e : m = n + 1
    · rw [e]; exact Int.le_refl _
    · have := gOc_mono g n (m := m) (by omega)
      have h2 : gOc g (n + 1) = gOc g n + (if gX g n = 0 then 1 else 0) := rfl
      rw [h2]
      split <;> omega
theorem zpc_walled (hD : gDo g) {x : Int} (hx : ∀ k, k < 32 → (zB x k ↔ (k : Int) < gN g ∧ gX g k = 1)) : ∀ n : Nat, n ≤ 14 → zpc n x = (if (n : Int) ≤ gN g then n - gOc g n else gN g - gOc g (gN g).toNat)
  | 0, _ => by
    have := hD.1
    rw [if_pos (by omega)]
    rfl
  | n + 1, h => by
    have hN := hD.1
    have ih := zpc_walled hD hx n (by omega)
    have hb := hx n (by omega)
    unfold zB at hb
    have e1 : zpc (n + 1) x = zpc n x + (if zb x n = true then 1 else 0) := rfl
    have e2 : gOc g (n + 1) = gOc g n + (if gX g n = 0 then 1 else 0) := rfl
    rw [e1, ih, e2]
    by_cases q : (n : Int) < gN g
    · rw [if_pos (show (n : Int) ≤ gN g by omega), if_pos (show ((n + 1 : Nat) : Int) ≤ gN g by omega)]
      rcases (hD.2.2 n q).2.2.2.2 with z | z
      · rw [if_neg (fun t => by have := (hb.mp t).2; omega), if_pos z]; omega
      · rw [if_pos (hb.mpr ⟨q, z⟩), if_neg (by omega)]; omega
    · rw [if_neg (fun t => q (hb.mp t).1), if_neg (show ¬ ((n + 1 : Nat) : Int) ≤ gN g by omega)]
      by_cases q2 : (n : Int) = gN g
      · rw [if_pos (by omega), show (gN g).toNat = n by omega]; omega
      · rw [if_neg (by omega)]; omega
theorem c_Ho_openDoors {h : Nat} (hh : zHo h) (hH : Hs mem h g rm) (hD : gDo g) (hQ : Q (gOc g (gN g).toNat) mem) : zC (d + 2) K_Ho_openDoors [(2, Int.ofNat h)] mem Q := by
  refine zC.rg fun _ hr => ?_
  have hz : zI (mem h 3) := zrg_i hr (zHo_kd hh).1 3
  have hN := hD.1
  obtain ⟨-, -, h2, h3, -⟩ := hH
  have hs := zB_small hz (n := 14) (by omega) (fun k k1 k2 => fun q => by have := ((h3 k k2).mp q).1; omega)
  have hw := zpc_walled hD h3 14 (by omega)
  have hg := gOc_le g (gN g).toNat
  refine v_Ho_openDoors hh (c_Jd_bitCount (d := d) (by omega) ?_)
  have : zsub (mem h 2) (zpc 14 (mem h 3)) = gOc g (gN g).toNat := by
    rw [hw, h2]
    by_cases q : ((14 : Nat) : Int) ≤ gN g
    · rw [if_pos q, zs (by have := gOc_le g 14; omega)]
      rw [show (gN g).toNat = 14 by omega]
      omega
    · rw [if_neg q, zs (by omega)]
      omega
  rw [this]
  exact hQ
theorem l_Mo_layOpens (hD : gDo (mem 123)) (hQ : ∀ m' : zMem, m' 122 29 = gOc (mem 123) (gN (mem 123)).toNat → (∀ k : Nat, (k : Int) < gN (mem 123) → gX (mem 123) k = 0 → m' 135 (gOc (mem 123) k).toNat = k) → (∀ k, k ≠ 122 → k ≠ 135 → m' k = mem k) → (∀ j, j ≠ 29 → m' 122 j = mem 122 j) → Q 0 m') : ∀ (n i : Nat) (m : zMem), i + n = (gN (mem 123)).toNat → m 122 29 = gOc (mem 123) i → (∀ k : Nat, k < i → gX (mem 123) k = 0 → m 135 (gOc (mem 123) k).toNat = k) → (∀ k, k ≠ 122 → k ≠ 135 → m k = mem k) → (∀ j, j ≠ 29 → m 122 j = mem 122 j) → zG (d + 2) M_Mo_layOpens 7 [(2, Int.ofNat 122), (0, (i : Int))] [] m Q := by
  have hN := hD.1
  intro n
  induction n with
  | zero =>
    intro i m hi h1 h2 h3 h4
    have e56 : m 123 56 = gN (mem 123) := by rw [h3 123 (by omega) (by omega)]; rfl
    refine v_Mo_layOpens_7 (c_Mo_doorMany (d := d) ⟨fun c => hQ m ?_ (fun k hk => h2 k (by omega)) h3 h4, fun c => by omega⟩)
    rw [h1, show i = (gN (mem 123)).toNat by omega]
  | succ n ih =>
    intro i m hi h1 h2 h3 h4
    have e56 : m 123 56 = gN (mem 123) := by rw [h3 123 (by omega) (by omega)]; rfl
    have hg := gOc_le (mem 123) i
    refine v_Mo_layOpens_7 (c_Mo_doorMany (d := d) ⟨fun c => by omega, fun c => ?_⟩)
    rw [zm (x := 4) (by omega), za (x := 4 * (i : Int)) (by omega), show (4 * (i : Int) + 3).toNat = 4 * i + 3 by omega, h3 123 (by omega) (by omega)]
    have e2 : gOc (mem 123) (i + 1) = gOc (mem 123) i + (if gX (mem 123) i = 0 then 1 else 0) := rfl
    refine ⟨by omega, fun c2 x2 ex => ?_, fun c2 => ⟨by omega, fun m2 f2 m3 f3 x3 ex => ?_⟩⟩
    · rw [za (by omega)] at ex
      rw [ex]
      have c2 : gX (mem 123) i ≠ 0 := c2
      rw [if_neg c2] at e2
      refine ih (i + 1) m (by omega) (by rw [h1, e2]; omega) (fun k hk hx => ?_) h3 h4
      by_cases q : k = i
      · rw [q] at hx; exact absurd hx c2
      · exact h2 k (by omega) hx
    · have c2 : gX (mem 123) i = 0 := c2
      rw [if_pos c2] at e2
      rw [za (by omega)] at ex
      rw [h1] at f2
      have f22 : m2 122 29 = gOc (mem 123) i := by rw [f2, zup_k (by omega), h1]
      rw [f22, za (by omega)] at f3
      rw [ex]
      refine ih (i + 1) m3 (by omega) (by rw [f3, zup_e, e2]) (fun k hk hx => ?_) (fun k k1 k2 => ?_) (fun j hj => ?_)
      · rw [f3, zup_k (by omega), f2, zup_at]
        by_cases q : k = i
        · rw [if_pos ⟨rfl, by rw [q]⟩, q]
        · have g1 := gOc_mono (mem 123) i (m := k + 1) (by omega)
          have g2 : gOc (mem 123) (k + 1) = gOc (mem 123) k + (if gX (mem 123) k = 0 then 1 else 0) := rfl
          rw [if_pos hx] at g2
          have g3 := gOc_le (mem 123) k
          rw [if_neg (fun z => by have := z.2; omega)]
          exact h2 k (by omega) hx
      · funext j
        rw [f3, zup_k k1, f2, zup_k k2, h3 k k1 k2]
      · rw [f3, zup_j hj, f2, zup_k (by omega), h4 j hj]
theorem c_Mo_layOpens (hD : gDo (mem 123)) (hQ : ∀ m' : zMem, m' 122 29 = gOc (mem 123) (gN (mem 123)).toNat → (∀ k : Nat, (k : Int) < gN (mem 123) → gX (mem 123) k = 0 → m' 135 (gOc (mem 123) k).toNat = k) → (∀ k, k ≠ 122 → k ≠ 135 → m' k = mem k) → (∀ j, j ≠ 29 → m' 122 j = mem 122 j) → Q 0 m') : zC (d + 2) K_Mo_layOpens [(2, Int.ofNat 122)] mem Q := by
  refine v_Mo_layOpens fun m1 e1 => l_Mo_layOpens hD hQ (gN (mem 123)).toNat 0 m1 (by omega) (by rw [e1, zup_e]; rfl) (fun k hk => by omega) (fun k k1 k2 => ?_) (fun j hj => ?_)
  · funext j; rw [e1, zup_k k1]
  · rw [e1, zup_j hj]
/-- how many of the first people are lost -/
noncomputable def gLc (g : zPg) : Nat → Int
  | 0 => 0
  | n + 1 => gLc g n + @ite Int (∀ k : Nat, ¬ gMay g (gR g n) (zn4 (gT g n)) (zn4 (gU g n)) k) (Classical.propDecidable _) 1 0
theorem gLc_le (g : zPg) : ∀ n, 0 ≤ gLc g n ∧ gLc g n ≤ n
  | 0 => ⟨Int.le_refl _, Int.le_refl _⟩
  | n + 1 => by
    have := gLc_le g n
    unfold gLc
    split <;> omega
theorem l_Pa_lost (hw : gWf g rm) (hP : Ps mem 1 g rm) (hQ : Q (gLc g (gP g).toNat) mem) : ∀ (n i : Nat), i + n = (gP g).toNat → zG (d + 3) M_Pa_lost 4 [(2, Int.ofNat 1), (0, gLc g i), (0, (i : Int))] [] mem Q := by
  obtain ⟨w1, w2, w3, w4, w5, w6⟩ := hw
  have hN := w1.1
  have h2 : mem 1 2 = gP g := hP.2.1
  intro n
  induction n with
  | zero =>
    intro i hi
    refine v_Pa_lost_4 (Or.inl rfl) ⟨fun c => ?_, fun c => by omega⟩
    rw [show i = (gP g).toNat by omega]
    exact hQ
  | succ n ih =>
    intro i hi
    have hle := gLc_le g i
    refine v_Pa_lost_4 (Or.inl rfl) ⟨fun c => by omega, fun c => ⟨by omega, ?_⟩⟩
    obtain ⟨z1, z2⟩ := zPa_wk (p := 1) (Or.inl rfl) (i := i) (by omega)
    rw [Int.toNat_natCast, z1]
    obtain ⟨k1, k2, k3, k4⟩ := w5 i (by omega)
    have e : gLc g (i + 1) = gLc g i + @ite Int (∀ k : Nat, ¬ gMay g (gR g i) (zn4 (gT g i)) (zn4 (gU g i)) k) (Classical.propDecidable _) 1 0 := rfl
    refine c_Wa_choices (d := d) z2 hP.1 w1 (hP.2.2.1 i (by omega)) (by omega) (by omega) k3 fun v hv hb => ⟨fun c2 x2 ex => ?_, fun c2 x3 ex x4 ex4 => ?_⟩
    · rw [za (by omega)] at ex
      have : ¬ ∀ k : Nat, ¬ gMay g (gR g i) (zn4 (gT g i)) (zn4 (gU g i)) k := by
        intro q
        apply c2
        rw [zB_z hv]
        intro j hj
        rw [hb j hj]
        exact q j
      rw [if_neg this] at e
      have := ih (i + 1) (by omega)
      rw [e, Int.add_zero] at this
      rw [ex]
      exact this
    · rw [za (by omega)] at ex ex4
      have : ∀ k : Nat, ¬ gMay g (gR g i) (zn4 (gT g i)) (zn4 (gU g i)) k := by
        intro k q
        have hk : (k : Int) < gN g := q.1.1
        rw [zB_z hv] at c2
        exact c2 k (by omega) ((hb k (by omega)).mpr q)
      rw [if_pos this] at e
      have := ih (i + 1) (by omega)
      rw [e] at this
      rw [ex, ex4]
      exact this
theorem c_Pa_lost (hw : gWf g rm) (hP : Ps mem 1 g rm) (hQ : Q (gLc g (gP g).toNat) mem) : zC (d + 3) K_Pa_lost [(2, Int.ofNat 1)] mem Q :=
  v_Pa_lost (Or.inl rfl) (l_Pa_lost hw hP hQ (gP g).toNat 0 (by omega))
theorem l_Mo_count {a : Int} (hw : gWf (mem 123) rm) (hQ : ∀ v, ((a = 0 → v = mem 122 29) ∧ (a = 1 → v = gLc (mem 123) (gP (mem 123)).toNat) ∧ (a = 2 → v = mem 123 86) ∧ (a = 3 → v = (if mem 142 0 = 0 then 0 else 1) + (if mem 142 1 = 0 then 0 else 1)) ∧ (a = 4 → v = mem 122 10) ∧ (a = 5 → v = if mem 143 0 = -4 then -4 else mem 144 0) ∧ (a < 0 ∨ 5 < a → v = -1)) → Q v mem) : ∀ (n i : Nat), i + n = (gP (mem 123)).toNat → zG (d + 5) M_Mo_count 8 [(2, Int.ofNat 122), (0, a), (0, gLc (mem 123) i), (0, (i : Int))] [] mem Q := by
  obtain ⟨w1, w2, w3, w4, w5, w6⟩ := hw
  have e72 : mem 123 72 = gP (mem 123) := rfl
  intro n
  induction n with
  | zero =>
    intro i hi
    refine v_Mo_count_8 (c_Mo_ones (d := d + 3) ⟨fun c => ?_, fun c => by omega⟩)
    have hi2 : i = (gP (mem 123)).toNat := by omega
    refine ⟨fun q => hQ _ ⟨fun _ => rfl, by omega, by omega, by omega, by omega, by omega, by omega⟩, fun q => hQ _ ⟨by omega, fun _ => by rw [hi2], by omega, by omega, by omega, by omega, by omega⟩, fun q => hQ _ ⟨by omega, by omega, fun _ => rfl, by omega, by omega, by omega, by omega⟩, fun q => ⟨fun z0 => ⟨fun z1 => ?_, fun z1 => ?_⟩, fun z0 => ⟨fun z1 => ?_, fun z1 => ?_⟩⟩, fun q => hQ _ ⟨by omega, by omega, by omega, by omega, fun _ => rfl, by omega, by omega⟩, fun q => ⟨fun z => hQ _ ⟨by omega, by omega, by omega, by omega, by omega, fun _ => by rw [if_neg z], by omega⟩, fun z => hQ _ ⟨by omega, by omega, by omega, by omega, by omega, fun _ => by rw [if_pos z], by omega⟩⟩, fun q => hQ _ ⟨by omega, by omega, by omega, by omega, by omega, by omega, fun _ => rfl⟩⟩
    · exact hQ _ ⟨by omega, by omega, by omega, fun _ => by rw [if_pos z0, if_pos z1]; rfl, by omega, by omega, by omega⟩
    · exact hQ _ ⟨by omega, by omega, by omega, fun _ => by rw [if_pos z0, if_neg z1]; rfl, by omega, by omega, by omega⟩
    · exact hQ _ ⟨by omega, by omega, by omega, fun _ => by rw [if_neg z0, if_pos z1]; rfl, by omega, by omega, by omega⟩
    · exact hQ _ ⟨by omega, by omega, by omega, fun _ => by rw [if_neg z0, if_neg z1]; rfl, by omega, by omega, by omega⟩
  | succ n ih =>
    intro i hi
    have hle := gLc_le (mem 123) i
    have hWk := w5 i (by omega)
    have hpr := pRep.one w1 w2.2 hWk
    have e : gLc (mem 123) (i + 1) = gLc (mem 123) i + @ite Int (∀ k : Nat, ¬ gMay (mem 123) (gR (mem 123) i) (zn4 (gT (mem 123) i)) (zn4 (gU (mem 123) i)) k) (Classical.propDecidable _) 1 0 := rfl
    refine v_Mo_count_8 (c_Mo_ones (d := d + 3) ⟨fun c => by omega, fun c => ?_⟩)
    refine c_Mo_placeOfOne (d := d + 2) w1 w2.2 (by omega) (by rw [Int.toNat_natCast]; exact hWk) ?_
    rw [Int.toNat_natCast]
    refine c_Mo_isLost (d := d) hpr.1 w1 (fun hl => ⟨fun q => absurd q (by decide), fun _ x11 e11 x12 e12 => ?_⟩) (fun hl => ⟨fun _ x9 e9 x10 e10 => ?_, fun q => absurd rfl q⟩)
    · rw [za (by omega)] at e11 e12
      rw [if_pos (fun k q => hl k ((hpr.may k).mpr q))] at e
      have := ih (i + 1) (by omega)
      rw [e] at this
      rw [e11, e12]
      exact this
    · rw [za (by omega)] at e9 e10
      rw [if_neg (fun q => hl fun k z => q k ((hpr.may k).mp z))] at e
      have := ih (i + 1) (by omega)
      rw [e] at this
      rw [e9, e10]
      exact this
theorem zpc_2 {x : Int} (hx : 0 ≤ x ∧ x < 4) : zpc 14 x = (if zb x 0 = true then 1 else 0) + (if zb x 1 = true then 1 else 0) := by
  have : x = 0 ∨ x = 1 ∨ x = 2 ∨ x = 3 := by omega
  rcases this with rfl | rfl | rfl | rfl <;> decide +kernel
theorem T_count {a : Int} (hI : Inv mem) (hR : ∀ m', Inv m' → R m') : zC (d + 6) K_Od_count [(2, Int.ofNat 0), (0, a)] mem (fun r1 m1 => zC (d + 6) K_Mo_count [(2, Int.ofNat 122), (0, a)] m1 (fun r2 m2 => (r1 = r2 → R m2) ∧ (r1 ≠ r2 → S m2))) := by
  obtain ⟨hw, hP⟩ := id hI.1
  obtain ⟨i0, i1⟩ := hI.2.1
  obtain ⟨s0, s1⟩ := hI.2.2.1
  obtain ⟨t1, t2, t3, t4, t5⟩ := hI.2.2.2
  have ref : ∀ v, ((a = 0 → v = gOc (mem 123) (gN (mem 123)).toNat) ∧ (a = 1 → v = gLc (mem 123) (gP (mem 123)).toNat) ∧ (a = 2 → v = mem 123 86) ∧ (a = 3 → v = (if mem 142 0 = 0 then 0 else 1) + (if mem 142 1 = 0 then 0 else 1)) ∧ (a = 4 → v = mem 122 10) ∧ (a = 5 → v = if mem 143 0 = -4 then -4 else mem 144 0) ∧ (a < 0 ∨ 5 < a → v = -1)) → zC (d + 6) K_Mo_count [(2, Int.ofNat 122), (0, a)] mem (fun r2 m2 => (v = r2 → R m2) ∧ (v ≠ r2 → S m2)) := by
    intro v hv
    refine v_Mo_count (c_Mo_layOpens (d := d + 3) hw.1 (fun m1 f1 f2 f3 f4 => ?_))
    have hs : zKp mem m1 := ⟨fun k hk => f3 k (by omega) (by omega), fun k k1 k2 => f3 k (by omega) (by omega), fun k k1 k2 => f3 k (by omega) (by omega), fun j hj => f4 j (by omega)⟩
    have e3 := hs.pg
    refine l_Mo_count (d := d + 1) (mem := m1) (rm := mem 122 1) (by rw [e3]; exact hw) (fun v2 hv2 => ⟨fun _ => hR m1 (hI.sc hs), fun q => absurd ?_ q⟩) (gP (m1 123)).toNat 0 (by omega)
    rw [e3, f1, f3 142 (by omega) (by omega), f4 10 (by omega), f3 143 (by omega) (by omega), f3 144 (by omega) (by omega)] at hv2
    obtain ⟨a0, a1, a2, a3, a4, a5, a6⟩ := hv
    obtain ⟨b0, b1, b2, b3, b4, b5, b6⟩ := hv2
    have : a = 0 ∨ a = 1 ∨ a = 2 ∨ a = 3 ∨ a = 4 ∨ a = 5 ∨ (a < 0 ∨ 5 < a) := by omega
    rcases this with q | q | q | q | q | q | q
    · rw [a0 q, b0 q]
    · rw [a1 q, b1 q]
    · rw [a2 q, b2 q]
    · rw [a3 q, b3 q]
    · rw [a4 q, b4 q]
    · rw [a5 q, b5 q]
    · rw [a6 q, b6 q]
  refine v_Od_count ⟨fun q => c_Ho_openDoors (d := d + 3) (Or.inl rfl) hP.1 hw.1 (ref _ ⟨fun _ => rfl, by omega, by omega, by omega, by omega, by omega, by omega⟩), fun q => c_Pa_lost (d := d + 2) hw hP (ref _ ⟨by omega, fun _ => rfl, by omega, by omega, by omega, by omega, by omega⟩), fun q => ref _ ⟨by omega, by omega, fun _ => hP.2.2.2.1, by omega, by omega, by omega, by omega⟩, fun q => c_Jd_bitCount (d := d + 4) (by omega) (ref _ ⟨by omega, by omega, by omega, fun _ => ?_, by omega, by omega, by omega⟩), fun q => ref _ ⟨by omega, by omega, by omega, by omega, fun _ => t1, by omega, by omega⟩, fun q => ⟨fun z => ref _ ⟨by omega, by omega, by omega, by omega, by omega, fun _ => ?_, by omega⟩, fun z => ref _ ⟨by omega, by omega, by omega, by omega, by omega, fun _ => ?_, by omega⟩⟩, fun q => ref _ ⟨by omega, by omega, by omega, by omega, by omega, by omega, fun _ => rfl⟩⟩
  · obtain ⟨j1, j2, -⟩ := i1 0 (by omega)
    obtain ⟨l1, l2, -⟩ := i1 1 (by omega)
    rw [zpc_2 i0]
    congr 1
    · by_cases z : zB (mem 0 11) 0
      · rw [if_pos (show zb (mem 0 11) 0 = true from z), if_neg (by have := j2.mp z; omega)]
      · rw [if_neg (show ¬ zb (mem 0 11) 0 = true from z), if_pos (by have : ¬ mem 142 0 = 1 := fun q => z (j2.mpr q); omega)]
    · by_cases z : zB (mem 0 11) 1
      · rw [if_pos (show zb (mem 0 11) 1 = true from z), if_neg (by have := l2.mp z; omega)]
      · rw [if_neg (show ¬ zb (mem 0 11) 1 = true from z), if_pos (by have : ¬ mem 142 1 = 1 := fun q => z (l2.mpr q); omega)]
  · obtain ⟨u1, u2, u3, u4⟩ := s1 0 (by omega)
    have u1 : (mem 45 1 = -1 ∧ mem 143 0 = -4) ∨ (0 ≤ mem 45 1 ∧ mem 45 1 < 3 ∧ mem 143 0 = mem 45 1) := u1
    rw [if_neg (by omega)]
    exact u2
  · obtain ⟨u1, u2, u3, u4⟩ := s1 0 (by omega)
    have u1 : (mem 45 1 = -1 ∧ mem 143 0 = -4) ∨ (0 ≤ mem 45 1 ∧ mem 45 1 < 3 ∧ mem 143 0 = mem 45 1) := u1
    rw [if_pos (by omega)]
end
