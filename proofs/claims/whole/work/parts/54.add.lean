section
variable {d w : Nat} {mem m' : zMem} {Q : Int → zMem → Prop} {R S : zMem → Prop} {g : zPg}
theorem gAdd_at {a b c : Int} (hN : 0 ≤ gN g ∧ gN g < 14) : gN (gAdd g a b c) = gN g + 1 ∧ (∀ i, 57 ≤ i → gAdd g a b c i = g i) ∧ (∀ k : Nat, (k : Int) < gN g → gA (gAdd g a b c) k = gA g k ∧ gB (gAdd g a b c) k = gB g k ∧ gC (gAdd g a b c) k = gC g k ∧ gX (gAdd g a b c) k = gX g k) ∧ (gA (gAdd g a b c) (gN g).toNat = a ∧ gB (gAdd g a b c) (gN g).toNat = b ∧ gC (gAdd g a b c) (gN g).toNat = c ∧ gX (gAdd g a b c) (gN g).toNat = 0) := by
  have o : ∀ i, i < 4 * (gN g).toNat ∨ 57 ≤ i → gAdd g a b c i = g i := fun i hi => by
    unfold gAdd
    rw [if_neg (by omega), if_neg (by omega), if_neg (by omega), if_neg (by omega), if_neg (by omega)]
  refine ⟨?_, fun i hi => o i (by omega), fun k hk => ⟨o _ (by omega), o _ (by omega), o _ (by omega), o _ (by omega)⟩, ?_, ?_, ?_, ?_⟩
  · show gAdd g a b c 56 = _
    unfold gAdd
    rw [if_neg (by omega), if_neg (by omega), if_neg (by omega), if_neg (by omega), if_pos rfl]
  · show gAdd g a b c _ = _
    unfold gAdd
    rw [if_pos rfl]
  · show gAdd g a b c _ = _
    unfold gAdd
    rw [if_neg (by omega), if_pos rfl]
  · show gAdd g a b c _ = _
    unfold gAdd
    rw [if_neg (by omega), if_neg (by omega), if_pos rfl]
  · show gAdd g a b c _ = _
    unfold gAdd
    rw [if_neg (by omega), if_neg (by omega), if_neg (by omega), if_pos rfl]
end
