section
variable {d w : Nat} {mem m' : zMem} {Q : Int → zMem → Prop}
theorem c_Mo_addDoor {a b c : Int} (hN : 0 ≤ gN (mem 123) ∧ gN (mem 123) < 14) (hQ : ∀ m', m' 123 = gAdd (mem 123) a b c → (∀ k, k ≠ 123 → m' k = mem k) → Q 0 m') : zC (d + 2) K_Mo_addDoor [(2, Int.ofNat 122), (0, a), (0, b), (0, c)] mem Q := by
  refine v_Mo_addDoor (c_Mo_doorMany (d := d) ?_)
  have e0 : mem 123 56 = gN (mem 123) := rfl
  rw [e0]
  have i0 : zmul 4 (gN (mem 123)) = 4 * gN (mem 123) := zmul_n (by unfold zI; omega)
  have i1 : zadd (4 * gN (mem 123)) 1 = 4 * gN (mem 123) + 1 := zadd_n (by unfold zI; omega)
  have i2 : zadd (4 * gN (mem 123)) 2 = 4 * gN (mem 123) + 2 := zadd_n (by unfold zI; omega)
  have i3 : zadd (4 * gN (mem 123)) 3 = 4 * gN (mem 123) + 3 := zadd_n (by unfold zI; omega)
  rw [i0, i1, i2, i3, show (4 * gN (mem 123)).toNat = 4 * (gN (mem 123)).toNat by omega, show (4 * gN (mem 123) + 1).toNat = 4 * (gN (mem 123)).toNat + 1 by omega, show (4 * gN (mem 123) + 2).toNat = 4 * (gN (mem 123)).toNat + 2 by omega, show (4 * gN (mem 123) + 3).toNat = 4 * (gN (mem 123)).toNat + 3 by omega]
  refine ⟨by omega, fun m2 f2 => ⟨by omega, fun m3 f3 => ⟨by omega, fun m4 f4 => ⟨by omega, fun m5 f5 m6 f6 => hQ m6 ?_ (fun k hk => ?_)⟩⟩⟩⟩
  · have z : m5 123 56 = gN (mem 123) := by rw [f5, zup_j (by omega), f4, zup_j (by omega), f3, zup_j (by omega), f2, zup_j (by omega)]; rfl
    have z2 : zadd (m5 123 56) 1 = gN (mem 123) + 1 := by rw [z]; exact zadd_n (by unfold zI; omega)
    rw [z2] at f6
    funext i
    unfold gAdd
    by_cases c1 : i = 4 * (gN (mem 123)).toNat
    · rw [if_pos c1, f6, zup_j (by omega), f5, zup_j (by omega), f4, zup_j (by omega), f3, zup_j (by omega), f2, c1, zup_e]
    · rw [if_neg c1]
      by_cases c2 : i = 4 * (gN (mem 123)).toNat + 1
      · rw [if_pos c2, f6, zup_j (by omega), f5, zup_j (by omega), f4, zup_j (by omega), f3, c2, zup_e]
      · rw [if_neg c2]
        by_cases c3 : i = 4 * (gN (mem 123)).toNat + 2
        · rw [if_pos c3, f6, zup_j (by omega), f5, zup_j (by omega), f4, c3, zup_e]
        · rw [if_neg c3]
          by_cases c4 : i = 4 * (gN (mem 123)).toNat + 3
          · rw [if_pos c4, f6, zup_j (by omega), f5, c4, zup_e]
          · rw [if_neg c4]
            by_cases c5 : i = 56
            · rw [if_pos c5, f6, c5, zup_e]
            · rw [if_neg c5, f6, zup_j c5, f5, zup_j c4, f4, zup_j c3, f3, zup_j c2, f2, zup_j c1]
  · funext i
    rw [f6, zup_k hk, f5, zup_k hk, f4, zup_k hk, f3, zup_k hk, f2, zup_k hk]
end
