section
/-! ajar: the reference counts. -/
variable {d w : Nat} {mem m m' m2 : zMem} {Q : Int → zMem → Prop} {g : zPg} {S : Nat → Bool} {pl : Int}
def aFr (mem m' : zMem) : Prop := ∀ k, k < 139 ∨ 141 < k → m' k = mem k
theorem aFr.refl : aFr mem mem := fun _ _ => rfl
theorem aFr.trans (h : aFr mem m') (h' : aFr m' m2) : aFr mem m2 := fun k hk => by rw [h' k hk, h k hk]
theorem aFr.sc (h : aFr mem m') : zKp mem m' := ⟨fun k hk => h k (by omega), fun k k1 k2 => h k (by omega), fun k k1 k2 => h k (by omega), fun j hj => by rw [h 122 (by omega)]⟩
def f0B : Nat → Bool := fun _ => false
theorem f0B_rm (k : Nat) : rmB f0B k = f0B := by funext j; unfold rmB f0B; rfl
theorem f0B_em : emB f0B := fun _ _ => rfl
theorem zl_le {x : Int} (h : zJ x) : (zlcmp x 0 ≤ 0 ↔ x ≤ 0) ∧ (0 < zlcmp x 0 ↔ 0 < x) ∧ (zlcmp x 0 = 0 ↔ x = 0) := by
  rw [zlcmp_v h (by unfold zJ; omega)]
  split
  · omega
  · split <;> omega
noncomputable def s1B (g : zPg) (S : Nat → Bool) (H : Nat → Int) (q K : Nat) : Int := zsum (fun k => @ite Int (S k = true ∧ pMay g q k) (Classical.propDecidable _) (H (pStep g q k).toNat) 0) K
theorem s1B_s {H : Nat → Int} {q K : Nat} : s1B g S H q (K + 1) = s1B g S H q K + @ite Int (S K = true ∧ pMay g q K) (Classical.propDecidable _) (H (pStep g q K).toNat) 0 := rfl
theorem pR_rg (hD : gDo g) (hp : pOK g pl) : 0 ≤ pR g pl ∧ pR g pl < 10 := by
  obtain ⟨p1, p2, p3, p4⟩ := hp
  unfold pR
  by_cases h : 28 ≤ pl / 15
  · rw [if_pos h]; omega
  · rw [if_neg h]
    have := hD.2.2 (pl / 30).toNat (by omega)
    by_cases e : pl / 15 % 2 = 0
    · rw [show (4 * (pl / 15 / 2) + pl / 15 % 2).toNat = 4 * (pl / 30).toNat by omega]
      exact this.1
    · rw [show (4 * (pl / 15 / 2) + pl / 15 % 2).toNat = 4 * (pl / 30).toNat + 1 by omega]
      exact this.2.1
def aN (g : zPg) (N : Nat → Int) : Prop := ∀ q : Nat, q < 570 → 0 ≤ N q ∧ (N q ≠ 0 → pOK g q)
def aJ (g : zPg) (S : Nat → Bool) (N M : Nat → Int) (j l : Nat) : Prop := aN g M ∧ ∀ H : Nat → Int, zsum (fun q => M q * H q) 570 = zsum (fun q => N q * s1B g S H q (gN g).toNat) j + N j * s1B g S H j l
theorem s1B_le (q : Nat) : ∀ K, s1B g S (fun _ => 1) q K ≤ K
  | 0 => by show (0 : Int) ≤ 0; omega
  | K + 1 => by
    have := s1B_le q K
    rw [s1B_s]
    split <;> omega
theorem s1B_ge (q : Nat) : ∀ K, 0 ≤ s1B g S (fun _ => 1) q K
  | 0 => by show (0 : Int) ≤ 0; omega
  | K + 1 => by
    have := s1B_ge q K
    rw [s1B_s]
    split <;> omega
theorem aJ.le {N M : Nat → Int} {j l : Nat} {c : Int} (hD : gDo g) (hN : aN g N) (hc : zsum N 570 ≤ c) (hj : j < 570) (hl : (l : Int) ≤ gN g) (h : aJ g S N M j l) : zsum M 570 ≤ 14 * c ∧ ∀ q, q < 570 → 0 ≤ M q ∧ M q ≤ 14 * c := by
  have hNN := hD.1
  have h1 := h.2 (fun _ => 1)
  have e1 : zsum (fun q => M q * 1) 570 = zsum M 570 := zsum_cg 570 (fun k _ => Int.mul_one _)
  rw [e1] at h1
  have b1 : zsum (fun q => N q * s1B g S (fun _ => 1) q (gN g).toNat) j ≤ zsum (fun q => 14 * N q) j := zsum_le j (fun k hk => by
    have a1 := s1B_le (g := g) (S := S) k (gN g).toNat
    have a2 := (hN k (by omega)).1
    show N k * s1B g S (fun _ => 1) k (gN g).toNat ≤ 14 * N k
    rw [Int.mul_comm 14]
    exact Int.mul_le_mul_of_nonneg_left (by omega) a2)
  have e2 : ∀ n, zsum (fun q => 14 * N q) n = 14 * zsum N n := by
    intro n
    induction n with
    | zero => rfl
    | succ n ih => rw [zsum_s, zsum_s, ih, Int.mul_add]
  have b2 : N j * s1B g S (fun _ => 1) j l ≤ 14 * N j := by
    have a1 := s1B_le (g := g) (S := S) j l
    rw [Int.mul_comm 14]
    exact Int.mul_le_mul_of_nonneg_left (by omega) (hN j hj).1
  have b3 : zsum N (j + 1) ≤ zsum N 570 := by
    have key : ∀ k, j + 1 + k ≤ 570 → zsum N (j + 1) ≤ zsum N (j + 1 + k) := by
      intro k
      induction k with
      | zero => intro _; exact Int.le_refl _
      | succ k ih =>
        intro hk
        have := ih (by omega)
        have := (hN (j + 1 + k) (by omega)).1
        have e5 : zsum N (j + 1 + (k + 1)) = zsum N (j + 1 + k) + N (j + 1 + k) := rfl
        omega
    have := key (570 - (j + 1)) (by omega)
    rw [show j + 1 + (570 - (j + 1)) = 570 by omega] at this
    exact this
  rw [zsum_s] at b3
  rw [e2] at b1
  have hM : zsum M 570 ≤ 14 * c := by omega
  refine ⟨hM, fun q hq => ⟨(h.1 q hq).1, ?_⟩⟩
  have := zsum_ge1 (f := M) 570 (fun k hk => (h.1 k hk).1) hq
  omega
theorem aJ.add {N M M' : Nat → Int} {j l : Nat} (hD : gDo g) (hN : aN g N) (hj : j < 570) (hNj : N j ≠ 0) (h : aJ g S N M j l) (hs : S l = true) (hm : pMay g j l) (hM : ∀ q, q < 570 → M' q = if q = (pStep g j l).toNat then M q + N j else M q) : aJ g S N M' j (l + 1) := by
  have hok := (pStep_ok hD ((hN j hj).2 hNj) hm.1.1).1
  have ht : (((pStep g j l).toNat : Nat) : Int) = pStep g j l := by have := hok.1; omega
  have ht2 : (pStep g j l).toNat < 570 := by have := hok.2.1; omega
  have hNge := (hN j hj).1
  refine ⟨fun q hq => ?_, fun H => ?_⟩
  · rw [hM q hq]
    by_cases e : q = (pStep g j l).toNat
    · rw [if_pos e]
      have := (h.1 q hq).1
      exact ⟨by omega, fun _ => by rw [e, ht]; exact hok⟩
    · rw [if_neg e]; exact h.1 q hq
  · have e1 : zsum (fun q => M' q * H q) 570 = zsum (fun q => if q = (pStep g j l).toNat then M q * H q + N j * H (pStep g j l).toNat else M q * H q) 570 := zsum_cg 570 (fun q hq => by
      rw [hM q hq]
      by_cases e : q = (pStep g j l).toNat
      · rw [if_pos e, if_pos e, Int.add_mul, ← e]
      · rw [if_neg e, if_neg e])
    rw [e1, zsum_up (f := fun q => M q * H q), if_pos ht2, h.2 H, s1B_s, if_pos ⟨hs, hm⟩, Int.mul_add]
    omega
theorem aJ.skip {N M : Nat → Int} {j l : Nat} (h : aJ g S N M j l) (hs : ¬ (S l = true ∧ pMay g j l)) : aJ g S N M j (l + 1) := by
  refine ⟨h.1, fun H => ?_⟩
  rw [h.2 H, s1B_s, if_neg hs, Int.add_zero]
theorem aJ.next {N M : Nat → Int} {j l : Nat} (h : aJ g S N M j l) (hs : N j = 0 ∨ (l : Int) = gN g) : aJ g S N M (j + 1) 0 := by
  refine ⟨h.1, fun H => ?_⟩
  rw [h.2 H, zsum_s]
  have e0 : s1B g S H (j + 1) 0 = 0 := rfl
  rw [e0, Int.mul_zero]
  rcases hs with q | q
  · rw [q, Int.zero_mul, Int.zero_mul]; omega
  · rw [show (gN g).toNat = l by omega]; omega
/-- ways of i steps, each with the ways that are left -/
def aP (g : zPg) (S : Nat → Bool) (pl : Int) (n i : Nat) (N : Nat → Int) : Prop := aN g N ∧ zsum N 570 ≤ 14 ^ i ∧ ∀ F : Int → Int, zsum (fun q => N q * cn g S F (n - i) f0B q) 570 = cn g S F n f0B pl
theorem aP.step {N M : Nat → Int} {n i : Nat} (hD : gDo g) (hi : i < n) (hP : aP g S pl n i N) (h : aJ g S N M 570 0) (hb : zsum M 570 ≤ 14 * zsum N 570) : aP g S pl n (i + 1) M := by
  obtain ⟨p1, p2, p3⟩ := hP
  refine ⟨h.1, by rw [Int.pow_succ]; omega, fun F => ?_⟩
  rw [h.2 (fun q => cn g S F (n - (i + 1)) f0B q), ← p3 F]
  have e0 : s1B g S (fun q => cn g S F (n - (i + 1)) f0B q) 570 0 = 0 := rfl
  rw [e0, Int.mul_zero, Int.add_zero]
  refine zsum_cg 570 (fun q hq => ?_)
  by_cases e : N q = 0
  · rw [e, Int.zero_mul, Int.zero_mul]
  · congr 1
    have hok := (p1 q hq).2 e
    rw [show n - i = (n - (i + 1)) + 1 by omega, cn_s]
    refine zsum_cg _ (fun k hk => ?_)
    by_cases c : S k = true ∧ pMay g q k
    · have := (pStep_ok hD hok c.2.1.1).1.1
      rw [if_pos c, if_pos c, f0B_rm]
      show cn g S F (n - (i + 1)) f0B (((pStep g q k).toNat : Nat) : Int) = _
      rw [show (((pStep g q k).toNat : Nat) : Int) = pStep g q k by omega]
    · rw [if_neg c, if_neg c]
end
