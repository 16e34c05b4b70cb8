section
/-! The mini machine's world: values, memory, and how a heap holds them. -/
abbrev zV : Type := Nat × Int
abbrev zMem : Type := Nat → Nat → Int
abbrev zKey : Type := MethodName × ByteArray × Nat × Option FieldType
/-- the block's first address; classes and slots; array classes by kind; the string constants and their bytes; HAVING's address; the script's address, length, ints -/
abbrev zEnv : Type := Nat × va_G × (Nat → ClassId) × (Nat → Nat) × (Nat → Nat) × Nat × Nat × Nat × (Nat → Int32)
def zEb (E : zEnv) : Nat := E.1
def zED (E : zEnv) : va_G := E.2.1
def zEc (E : zEnv) : Nat → ClassId := E.2.2.1
def zEk (E : zEnv) : Nat → Nat := E.2.2.2.1
def zEv (E : zEnv) : Nat → Nat := E.2.2.2.2.1
def zEh (E : zEnv) : Nat := E.2.2.2.2.2.1
def zEs (E : zEnv) : Nat := E.2.2.2.2.2.2.1
def zEl (E : zEnv) : Nat := E.2.2.2.2.2.2.2.1
def zEx (E : zEnv) : Nat → Int32 := E.2.2.2.2.2.2.2.2
/-- a value: tag 0 an int, 1 a long, 2 a cell of the block, 3 a string constant, 4 HAVING, 5 the script; 9: nothing is known -/
def zv (E : zEnv) : zV → Value
  | (0, x) => .int (Int32.ofInt x)
  | (1, x) => .long (Int64.ofInt x)
  | (2, x) => .ref (zEb E + x.toNat)
  | (3, x) => .ref (zEk E x.toNat)
  | (4, _) => .ref (zEh E)
  | (5, _) => .ref (zEs E)
  | (_, _) => .null
def zok : zV → Prop
  | (0, x) => zI x
  | (1, x) => zJ x
  | (_, _) => True
def zcat : Nat → Nat
  | 1 => 2
  | _ => 1
theorem zv_cat (E : zEnv) (v : zV) : (zv E v).category = zcat v.1 := by
  obtain ⟨t, x⟩ := v
  match t with
  | 0 => rfl
  | 1 => rfl
  | 2 => rfl
  | 3 => rfl
  | 4 => rfl
  | 5 => rfl
  | t + 6 => rfl
def zfv (E : zEnv) (k j : Nat) (x : Int) : Value := if zfk (zkd k) j = 2 then .ref (zEb E + zrt k j) else .int (Int32.ofInt x)
def zel (E : zEnv) (k : Nat) (f : Nat → Int) : va_E :=
  if zkd k < 100 then .inr (zkd k, (List.range (zln k)).map fun j => zfv E k j (f j))
  else .inl (zEc E (zkd k), zln k, if zkd k < 103 then .inl (fun j => Int32.ofInt (f j)) else if zkd k = 103 then .inr (.inl fun j => Int64.ofInt (f j)) else .inr (.inr (.inr (.inr fun j => some (zEb E + zrt k j)))))
def zws (E : zEnv) (mem : zMem) : va_W := (List.range zNC).map fun k => (zEb E + k, zel E k (mem k))
def zA (E : zEnv) : Nat → Prop := fun q => zEb E ≤ q ∧ q < zEb E + zNC
def zrg (mem : zMem) : Prop := ∀ k j, (zkd k = 103 → zJ (mem k j)) ∧ (zkd k ≠ 103 → zI (mem k j))
def zup (mem : zMem) (k j : Nat) (v : Int) : zMem := fun a i => if a = k ∧ i = j then v else mem a i
/-- a row's places dp.. of cell t become the places sp.. of cell k -/
def zcp (mem : zMem) (k sp t dp n : Nat) : zMem := fun a i => if a = t ∧ dp ≤ i ∧ i < dp + n then mem k (sp + (i - dp)) else mem a i
def ztys (E : zEnv) : List (ClassId × FieldType) := [(zEc E 100, .int), (zEc E 101, .byte), (zEc E 102, .boolean), (zEc E 103, .long), (zEc E 110, .object "OtherDoor$Walker"), (zEc E 111, .object "OtherDoor$Palace"), (zEc E 112, .object "OtherDoor$Sheet"), (zEc E 113, .array .int)]
theorem zws_at (E : zEnv) (mem : zMem) {k : Nat} (hk : k < zNC) : (zws E mem)[k]? = some (zEb E + k, zel E k (mem k)) := by
  unfold zws
  rw [List.getElem?_map, List.getElem?_range hk]
  rfl
theorem zws_of {E : zEnv} {mem : zMem} {k : Nat} {q : Nat × va_E} (h : (zws E mem)[k]? = some q) : k < zNC ∧ q = (zEb E + k, zel E k (mem k)) := by
  have hk : k < zNC := by
    have h1 := (List.getElem?_eq_some_iff.mp h).1
    unfold zws at h1
    rw [List.length_map, List.length_range] at h1
    exact h1
  rw [zws_at E mem hk] at h
  exact ⟨hk, (Option.some.inj h).symm⟩
theorem zws_D (E : zEnv) (mem : zMem) : va_D (zA E) (zws E mem) := by
  refine ⟨fun i j p q hi hj h => ?_, fun k q hk => ?_⟩
  · obtain ⟨-, rfl⟩ := zws_of hi
    obtain ⟨-, rfl⟩ := zws_of hj
    exact Nat.add_left_cancel h
  · obtain ⟨h1, rfl⟩ := zws_of hk
    exact ⟨Nat.le_add_right _ _, Nat.add_lt_add_left h1 _⟩
theorem zws_set (E : zEnv) (mem mem' : zMem) {k : Nat} (hk : k < zNC) (ho : ∀ a, a ≠ k → mem' a = mem a) : (zws E mem).set k (zEb E + k, zel E k (mem' k)) = zws E mem' := by
  apply List.ext_getElem?
  intro i
  by_cases hik : i = k
  · subst hik
    rw [zws_at E mem' hk, List.getElem?_set_self]
    unfold zws
    rw [List.length_map, List.length_range]
    exact hk
  · rw [List.getElem?_set_ne (Ne.symm hik)]
    by_cases hi : i < zNC
    · rw [zws_at E mem hi, zws_at E mem' hi, ho i hik]
    · rw [List.getElem?_eq_none, List.getElem?_eq_none] <;> · unfold zws; rw [List.length_map, List.length_range]; omega
theorem zup_o (mem : zMem) (k j : Nat) (v : Int) (a : Nat) (h : a ≠ k) : zup mem k j v a = mem a := by
  funext i
  unfold zup
  rw [if_neg (fun q => h q.1)]
theorem zcp_o (mem : zMem) (k sp t dp n : Nat) (a : Nat) (h : a ≠ t) : zcp mem k sp t dp n a = mem a := by
  funext i
  unfold zcp
  rw [if_neg (fun q => h q.1)]
theorem zup_rg {mem : zMem} {k j : Nat} {v : Int} (h : zrg mem) (h1 : zkd k = 103 → zJ v) (h2 : zkd k ≠ 103 → zI v) : zrg (zup mem k j v) := by
  intro a i
  unfold zup
  by_cases hq : a = k ∧ i = j
  · rw [if_pos hq, hq.1]
    exact ⟨h1, h2⟩
  · rw [if_neg hq]
    exact h a i
theorem zcp_rg {mem : zMem} {k sp t dp n : Nat} (h : zrg mem) (hk : zkd k = zkd t) : zrg (zcp mem k sp t dp n) := by
  intro a i
  unfold zcp
  by_cases hq : a = t ∧ dp ≤ i ∧ i < dp + n
  · rw [if_pos hq, hq.1, ← hk]
    exact h k _
  · rw [if_neg hq]
    exact h a i
theorem zkd_lt {k : Nat} (h : zkd k < 999) : k < zNC := by
  rcases Nat.lt_or_ge k zNC with h1 | h1
  · exact h1
  · exfalso
    have h2 : zSH.length ≤ k := h1
    unfold zkd zsh at h
    have h3 : zSH[k]? = none := List.getElem?_eq_none h2
    simp [List.getD, h3] at h
theorem zel_o {k : Nat} (E : zEnv) (f : Nat → Int) (h : zkd k < 100) : zel E k f = .inr (zkd k, (List.range (zln k)).map fun j => zfv E k j (f j)) := if_pos h
theorem zel_i {k : Nat} (E : zEnv) (f : Nat → Int) (h1 : 100 ≤ zkd k) (h2 : zkd k < 103) : zel E k f = .inl (zEc E (zkd k), zln k, .inl fun j => Int32.ofInt (f j)) := by
  unfold zel
  rw [if_neg (by omega), if_pos h2]
theorem zel_l {k : Nat} (E : zEnv) (f : Nat → Int) (h : zkd k = 103) : zel E k f = .inl (zEc E 103, zln k, .inr (.inl fun j => Int64.ofInt (f j))) := by
  unfold zel
  rw [if_neg (by omega), if_neg (by omega), if_pos h, h]
theorem zel_r {k : Nat} (E : zEnv) (f : Nat → Int) (h : 110 ≤ zkd k) : zel E k f = .inl (zEc E (zkd k), zln k, .inr (.inr (.inr (.inr fun j => some (zEb E + zrt k j))))) := by
  unfold zel
  rw [if_neg (by omega), if_neg (by omega), if_neg (by omega)]
/-- every class's number stands for as many fields as the block's cells of that kind have -/
theorem zsh_cl : ∀ k, k < zNC → zkd k < 100 → (vwCl.getD (zkd k) ("", (fun _ => ("", "", "", false)), 0)).2.2 = zln k := by decide +kernel
end
