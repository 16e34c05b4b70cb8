section
variable {d : Nat} {mem : zMem} {Q : Int → zMem → Prop}
theorem zB_or0 (x : Int) (j : Nat) : zB (zor x 0) j ↔ zB x j := by
  rw [zB_or]
  exact ⟨fun q => q.elim id (fun q => absurd q (zB_0 j)), Or.inl⟩
def pMi (g : zPg) (pl x : Int) : Prop := pMay g pl x.toNat
def gOi (g : zPg) (r x : Int) : Prop := gX g x.toNat = 0 ∧ (gA g x.toNat = r ∨ gB g x.toNat = r)
theorem l_Mo_mayTake {pl : Int} (hp : pOK (mem 123) pl) (hD : gDo (mem 123)) (hQ : ∀ v, zI v → (∀ j : Nat, j < 32 → (zB v j ↔ pMay (mem 123) pl j)) → Q v mem) : ∀ (n : Nat) (l2 i : Int), 0 ≤ i → i ≤ gN (mem 123) → gN (mem 123) - i ≤ n → zI l2 → (∀ j : Nat, j < 32 → (zB l2 j ↔ (j : Int) < i ∧ pMi (mem 123) pl j)) → zG (d + 3) M_Mo_mayTake 4 [(2, Int.ofNat 122), (0, pl), (0, l2), (0, i)] [] mem Q := by
  have hN := hD.1
  have fin : ∀ (l2 i : Int), i = gN (mem 123) → zI l2 → (∀ j : Nat, j < 32 → (zB l2 j ↔ (j : Int) < i ∧ pMi (mem 123) pl j)) → Q l2 mem := by
    intro l2 i hi h3 h4
    refine hQ l2 h3 (fun j hj => ?_)
    rw [h4 j hj]
    exact ⟨fun q => q.2, fun q => ⟨by have : (j : Int) < gN (mem 123) := q.1.1; omega, q⟩⟩
  intro n
  induction n with
  | zero =>
    intro l2 i h0 h1 h2 h3 h4
    refine v_Mo_mayTake_4 (c_Mo_doorMany (d := d + 1) ⟨fun c => fin l2 i (by omega) h3 h4, fun c => ?_⟩)
    have : i < gN (mem 123) := c
    omega
  | succ n ih =>
    intro l2 i h0 h1 h2 h3 h4
    refine v_Mo_mayTake_4 (c_Mo_doorMany (d := d + 1) ⟨fun c => ?_, fun c => ?_⟩)
    · have c : gN (mem 123) ≤ i := c
      exact fin l2 i (by omega) h3 h4
    · have c : i < gN (mem 123) := c
      have hi : zadd i 1 = i + 1 := zadd_n (by unfold zI; omega)
      refine c_Mo_stepped (d := d) hp hD ⟨h0, c⟩ (fun hm => ⟨fun _ x3 e3 x4 e4 => ?_, fun q => absurd q ?_⟩) (fun hm => ⟨fun q => absurd rfl q, fun _ x5 e5 x6 e6 => ?_⟩)
      · rw [e3, e4, hi]
        exact ih _ _ (by omega) (by omega) (by omega) (zor_I _ _) (zB_step (P := pMi (mem 123) pl) h0 (by omega) h4 hm)
      · have hpl : pL pl = -4 ∨ 0 ≤ pL pl := by
          have := hp.1
          unfold pL
          split
          · exact Or.inl rfl
          · right; omega
        unfold pStep pMk
        rw [if_neg (show ¬ ((i.toNat : Nat) : Int) = -4 by omega)]
        have hb2 : ∀ b : Int, b = (if gL (mem 123) = 1 then pL pl else -4) → b = -4 ∨ 0 ≤ b := by
          intro b hb
          rw [hb]
          split
          · exact hpl
          · exact Or.inl rfl
        generalize hb : (if gL (mem 123) = 1 then pL pl else -4) = b
        have := hb2 b hb.symm
        split <;> split <;> omega
      · rw [e5, e6, hi]
        refine ih _ _ (by omega) (by omega) (by omega) (zor_I _ _) ?_
        intro j hj
        rw [zB_or0]
        exact zB_skip (P := pMi (mem 123) pl) h4 hm j hj
theorem c_Mo_mayTake {pl : Int} (hp : pOK (mem 123) pl) (hD : gDo (mem 123)) (hQ : ∀ v, zI v → (∀ j : Nat, j < 32 → (zB v j ↔ pMay (mem 123) pl j)) → Q v mem) : zC (d + 3) K_Mo_mayTake [(2, Int.ofNat 122), (0, pl)] mem Q :=
  v_Mo_mayTake (l_Mo_mayTake hp hD hQ (gN (mem 123)).toNat 0 0 (by omega) hD.1.1 (by omega) zI_0 (fun j _ => ⟨fun q => absurd q (zB_0 j), fun q => by omega⟩))
theorem c_Mo_isLost {pl : Int} (hp : pOK (mem 123) pl) (hD : gDo (mem 123)) (hQ1 : (∀ j : Nat, ¬ pMay (mem 123) pl j) → Q 1 mem) (hQ0 : ¬ (∀ j : Nat, ¬ pMay (mem 123) pl j) → Q 0 mem) : zC (d + 4) K_Mo_isLost [(2, Int.ofNat 122), (0, pl)] mem Q := by
  have hN := hD.1
  have hlt : ∀ j : Nat, pMay (mem 123) pl j → j < 32 := fun j q => by have : (j : Int) < gN (mem 123) := q.1.1; omega
  refine v_Mo_isLost (c_Mo_mayTake (d := d) hp hD fun v hv hb => ⟨fun c => hQ0 fun q => c ?_, fun c => hQ1 fun j q => ?_⟩)
  · rw [zB_z hv]
    intro j hj
    rw [hb j hj]
    exact q j
  · rw [zB_z hv] at c
    exact c j (hlt j q) ((hb j (hlt j q)).mpr q)
theorem l_Mo_doorsOf {r : Int} (hD : gDo (mem 123)) (hQ : ∀ v, zI v → (∀ j : Nat, j < 32 → (zB v j ↔ gO (mem 123) r j)) → Q v mem) : ∀ (n : Nat) (l2 i : Int), 0 ≤ i → i ≤ gN (mem 123) → gN (mem 123) - i ≤ n → zI l2 → (∀ j : Nat, j < 32 → (zB l2 j ↔ (j : Int) < i ∧ gOi (mem 123) r j)) → zG (d + 2) M_Mo_doorsOf 4 [(2, Int.ofNat 122), (0, r), (0, l2), (0, i)] [] mem Q := by
  have hN := hD.1
  have fin : ∀ (l2 i : Int), i = gN (mem 123) → zI l2 → (∀ j : Nat, j < 32 → (zB l2 j ↔ (j : Int) < i ∧ gOi (mem 123) r j)) → Q l2 mem := by
    intro l2 i hi h3 h4
    refine hQ l2 h3 (fun j hj => ?_)
    rw [h4 j hj, hi]
    exact Iff.rfl
  intro n
  induction n with
  | zero =>
    intro l2 i h0 h1 h2 h3 h4
    refine v_Mo_doorsOf_4 (c_Mo_doorMany (d := d) ⟨fun c => fin l2 i (by omega) h3 h4, fun c => ?_⟩)
    have : i < gN (mem 123) := c
    omega
  | succ n ih =>
    intro l2 i h0 h1 h2 h3 h4
    refine v_Mo_doorsOf_4 (c_Mo_doorMany (d := d) ⟨fun c => ?_, fun c => ?_⟩)
    · have c : gN (mem 123) ≤ i := c
      exact fin l2 i (by omega) h3 h4
    · have c : i < gN (mem 123) := c
      have hi : zadd i 1 = i + 1 := zadd_n (by unfold zI; omega)
      have h4i : zmul 4 i = 4 * i := zmul_n (by unfold zI; omega)
      have h41 : zadd (4 * i) 1 = 4 * i + 1 := zadd_n (by unfold zI; omega)
      have h43 : zadd (4 * i) 3 = 4 * i + 3 := zadd_n (by unfold zI; omega)
      have no : ∀ x x', x = zor l2 0 → x' = zadd i 1 → ¬ (gX (mem 123) i.toNat = 0 ∧ (gA (mem 123) i.toNat = r ∨ gB (mem 123) i.toNat = r)) → zG (d + 2) M_Mo_doorsOf 4 [(2, Int.ofNat 122), (0, r), (0, x), (0, x')] [] mem Q := by
        intro x x' ex ex' hno
        rw [ex, ex', hi]
        refine ih _ _ (by omega) (by omega) (by omega) (zor_I _ _) ?_
        intro j hj
        rw [zB_or0]
        exact zB_skip (P := gOi (mem 123) r) h4 hno j hj
      have yes : ∀ x x', x = zor l2 (zshl 1 i) → x' = zadd i 1 → (gX (mem 123) i.toNat = 0 ∧ (gA (mem 123) i.toNat = r ∨ gB (mem 123) i.toNat = r)) → zG (d + 2) M_Mo_doorsOf 4 [(2, Int.ofNat 122), (0, r), (0, x), (0, x')] [] mem Q := by
        intro x x' ex ex' hy
        rw [ex, ex', hi]
        exact ih _ _ (by omega) (by omega) (by omega) (zor_I _ _) (zB_step (P := gOi (mem 123) r) h0 (by omega) h4 hy)
      rw [h4i, h41, h43, show (4 * i + 3).toNat = 4 * i.toNat + 3 by omega, show (4 * i + 1).toNat = 4 * i.toNat + 1 by omega, show (4 * i).toNat = 4 * i.toNat by omega]
      refine ⟨by omega, fun c1 x2 e2 x3 e3 => no _ _ e2 e3 (fun q => c1 q.1), fun c1 => ⟨by omega, fun c2 x4 e4 x5 e5 => yes _ _ e4 e5 ⟨c1, Or.inl c2⟩, fun c2 => ⟨by omega, fun c3 x6 e6 x7 e7 => no _ _ e6 e7 (fun q => q.2.elim c2 c3), fun c3 x8 e8 x9 e9 => yes _ _ e8 e9 ⟨c1, Or.inr c3⟩⟩⟩⟩
theorem c_Mo_doorsOf {r : Int} (hD : gDo (mem 123)) (hQ : ∀ v, zI v → (∀ j : Nat, j < 32 → (zB v j ↔ gO (mem 123) r j)) → Q v mem) : zC (d + 2) K_Mo_doorsOf [(2, Int.ofNat 122), (0, r)] mem Q :=
  v_Mo_doorsOf (l_Mo_doorsOf hD hQ (gN (mem 123)).toNat 0 0 (by omega) hD.1.1 (by omega) zI_0 (fun j _ => ⟨fun q => absurd q (zB_0 j), fun q => by omega⟩))
end
