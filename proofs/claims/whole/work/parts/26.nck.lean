section
def nbc (a : Nat) : Nat :=
  let x1 := a - ((a >>> 1) &&& 1431655765)
  let x2 := (x1 &&& 858993459) + ((x1 >>> 2) &&& 858993459)
  let x3 := (x2 + (x2 >>> 4)) &&& 252645135
  let x4 := x3 + (x3 >>> 8)
  let x5 := x4 + (x4 >>> 16)
  x5 &&& 63
def npc : Nat → Nat → Nat
  | 0, _ => 0
  | n + 1, x => npc n x + (if x.testBit n = true then 1 else 0)
def nck : Nat → Nat → Bool
  | 0, x => Nat.beq (nbc x) (npc 14 x)
  | n + 1, x => nck n (2 * x) && nck n (2 * x + 1)
theorem nck_of : ∀ (n x : Nat), nck n x = true → ∀ y, y / 2 ^ n = x → nbc y = npc 14 y
  | 0, x, h, y, e => by
    rw [Nat.pow_zero, Nat.div_one] at e
    subst e
    exact Nat.eq_of_beq_eq_true h
  | n + 1, x, h, y, e => by
    unfold nck at h
    rw [Bool.and_eq_true] at h
    rw [Nat.pow_succ, ← Nat.div_div_eq_div_mul] at e
    rcases (show y / 2 ^ n = 2 * x ∨ y / 2 ^ n = 2 * x + 1 by omega) with q | q
    · exact nck_of n _ h.1 y q
    · exact nck_of n _ h.2 y q
theorem nck_1 : nck 14 0 = true := by decide +kernel
theorem nbc_1 (x : Nat) (h : x < 16384) : nbc x = npc 14 x := nck_of 14 0 nck_1 x (Nat.div_eq_of_lt h)
end
