section
/-! The constructors: a machine of their own, whose state is concrete; run by the kernel. -/
/-- a cell that is being made: kind, size, numbers written, references written -/
abbrev z1c : Type := Nat × Nat × List (Nat × Int) × List (Nat × Nat)
def z1f (c : z1c) (j : Nat) : Int := (zat c.2.2.1 j).getD 0
def z1r (c : z1c) (j : Nat) : Option Nat := zat c.2.2.2 j
def z1d : z1c := (999, 0, [], [])
def z1fv (E : zEnv) (c : z1c) (j : Nat) : Value := if zfk c.1 j = 2 then va_rf ((z1r c j).map (zEb E + ·)) else .int (Int32.ofInt (z1f c j))
def z1el (E : zEnv) (c : z1c) : va_E :=
  if c.1 < 100 then .inr (c.1, (List.range c.2.1).map (z1fv E c))
  else .inl (zEc E c.1, c.2.1, if c.1 < 103 then .inl (fun j => Int32.ofInt (z1f c j)) else if c.1 = 103 then .inr (.inl fun j => Int64.ofInt (z1f c j)) else .inr (.inr (.inr (.inr fun j => (z1r c j).map (zEb E + ·)))))
def z1ws (E : zEnv) (S : List z1c) : va_W := (List.range S.length).map fun k => (zEb E + k, z1el E (S.getD k z1d))
def z1A (E : zEnv) : Nat → Prop := fun q => zEb E ≤ q
def z1H (E : zEnv) (S : List z1c) (H : Heap) : Prop := H.size = zEb E + S.length ∧ va_P (zED E) vwCl (z1ws E S) H
def z1s : List z1c → Nat
  | [] => 0
  | c :: r => c.2.1 + z1s r
theorem z1s_app : ∀ (a b : List z1c), z1s (a ++ b) = z1s a + z1s b
  | [], b => by simp [z1s]
  | c :: a, b => by
    have := z1s_app a b
    simp only [List.cons_append, z1s]
    omega
theorem z1s_set : ∀ (S : List z1c) (k : Nat) (c c' : z1c), S[k]? = some c → c'.2.1 = c.2.1 → z1s (S.set k c') = z1s S
  | [], k, c, c', h, _ => by simp at h
  | a :: S, 0, c, c', h, e => by
    have : a = c := by simpa using h
    subst this
    simp only [List.set_cons_zero, z1s, e]
  | a :: S, k + 1, c, c', h, e => by
    have := z1s_set S k c c' (by simpa using h) e
    simp only [List.set_cons_succ, z1s, this]
theorem z1ws_at (E : zEnv) {S : List z1c} {k : Nat} {c : z1c} (h : S[k]? = some c) : (z1ws E S)[k]? = some (zEb E + k, z1el E c) := by
  have hk := (List.getElem?_eq_some_iff.mp h).1
  unfold z1ws
  rw [List.getElem?_map, List.getElem?_range hk]
  simp [List.getD_eq_getElem?_getD, h]
theorem z1ws_of {E : zEnv} {S : List z1c} {k : Nat} {q : Nat × va_E} (h : (z1ws E S)[k]? = some q) : ∃ c, S[k]? = some c ∧ q = (zEb E + k, z1el E c) := by
  have hk : k < S.length := by
    have h1 := (List.getElem?_eq_some_iff.mp h).1
    unfold z1ws at h1
    rw [List.length_map, List.length_range] at h1
    exact h1
  refine ⟨S[k], List.getElem?_eq_getElem hk, ?_⟩
  rw [z1ws_at E (List.getElem?_eq_getElem hk)] at h
  exact (Option.some.inj h).symm
theorem z1ws_D (E : zEnv) (S : List z1c) : va_D (z1A E) (z1ws E S) := by
  refine ⟨fun i j p q hi hj h => ?_, fun k q hk => ?_⟩
  · obtain ⟨c, -, rfl⟩ := z1ws_of hi
    obtain ⟨c', -, rfl⟩ := z1ws_of hj
    exact Nat.add_left_cancel h
  · obtain ⟨c, -, rfl⟩ := z1ws_of hk
    exact Nat.le_add_right _ _
theorem z1ws_set (E : zEnv) {S : List z1c} {k : Nat} {c : z1c} (h : S[k]? = some c) (c' : z1c) : (z1ws E S).set k (zEb E + k, z1el E c') = z1ws E (S.set k c') := by
  have hk := (List.getElem?_eq_some_iff.mp h).1
  apply List.ext_getElem?
  intro i
  by_cases hik : i = k
  · subst hik
    rw [z1ws_at E (S := S.set i c') (List.getElem?_set_self hk), List.getElem?_set_self]
    unfold z1ws
    rw [List.length_map, List.length_range]
    exact hk
  · rw [List.getElem?_set_ne (Ne.symm hik)]
    by_cases hi : i < S.length
    · rw [z1ws_at E (List.getElem?_eq_getElem hi), z1ws_at E (S := S.set k c') (c := S[i]) (by rw [List.getElem?_set_ne (Ne.symm hik)]; exact List.getElem?_eq_getElem hi)]
    · rw [List.getElem?_eq_none, List.getElem?_eq_none]
      · unfold z1ws; rw [List.length_map, List.length_range, List.length_set]; omega
      · unfold z1ws; rw [List.length_map, List.length_range]; omega
/-- a cell is made -/
theorem z1H_push {E : zEnv} {S : List z1c} {H H1 : Heap} {c : z1c} (hH : z1H E S H) (hz : H1.size = H.size + 1) (ho : ∀ q : Nat, q < H.size → H1[q]? = H[q]?) (hc : va_at (zED E) vwCl (H.size, z1el E c) H1) : z1H E (S ++ [c]) H1 := by
  refine ⟨by rw [hz, hH.1, List.length_append]; rfl, fun k q hk => ?_⟩
  obtain ⟨c', hc', rfl⟩ := z1ws_of hk
  by_cases hlt : k < S.length
  · rw [List.getElem?_append_left hlt] at hc'
    have hq := hH.2 k _ (z1ws_at E hc')
    exact hq.kept (ho _ (by rw [hH.1]; show zEb E + k < _; omega))
  · have hl := (List.getElem?_eq_some_iff.mp hc').1
    rw [List.length_append, List.length_singleton] at hl
    have : k = S.length := by omega
    subst this
    rw [List.getElem?_append_right (Nat.le_refl _), Nat.sub_self] at hc'
    cases (show c = c' by simpa using hc')
    rw [← hH.1]
    exact hc
theorem z1S_push {E : zEnv} {H0 H H1 : Heap} {locs : List Loc} (hS : va_S (z1A E) H0 H locs) (hz : H1.size = H.size + 1) (ho : ∀ q : Nat, q < H.size → H1[q]? = H[q]?) : va_S (z1A E) H0 H1 locs :=
  ⟨Nat.le_trans hS.1 (by omega), fun x h1 h2 => (ho x (Nat.lt_of_lt_of_le h1 hS.1)).trans (hS.2.1 x h1 h2), hS.2.2⟩
theorem z1H_set {E : zEnv} {S : List z1c} {H H1 : Heap} {k : Nat} {c c' : z1c} {e : va_E} (hH : z1H E S H) (hc : S[k]? = some c) (hz : H1.size = H.size) (he : e = z1el E c') (hP : va_P (zED E) vwCl ((z1ws E S).set k (zEb E + k, e)) H1) : z1H E (S.set k c') H1 := by
  subst he
  rw [z1ws_set E hc c'] at hP
  exact ⟨by rw [hz, hH.1, List.length_set], hP⟩
/-- a constructor: key; class; code; fields; classes that are made (index, kind, places); constructors that are called (index, class, places); how many cells and slots it makes -/
abbrev z1m : Type := zKey × String × List (Nat × Instr × Nat) × List (Nat × Nat × Nat × Nat) × List (Nat × Nat × List Nat) × List (Nat × Nat × List Nat) × Nat × Nat
def z1Mk (M : z1m) : zKey := M.1
def z1Mo (M : z1m) : String := M.2.1
def z1Mc (M : z1m) : List (Nat × Instr × Nat) := M.2.2.1
def z1Mf (M : z1m) : List (Nat × Nat × Nat × Nat) := M.2.2.2.1
def z1Mn (M : z1m) : List (Nat × Nat × List Nat) := M.2.2.2.2.1
def z1Mm (M : z1m) : List (Nat × Nat × List Nat) := M.2.2.2.2.2.1
def z1b1 (M : z1m) : Nat := M.2.2.2.2.2.2.1
def z1b2 (M : z1m) : Nat := M.2.2.2.2.2.2.2
def z1at : ArrayType → Nat
  | .int => 100
  | .byte => 101
  | .boolean => 102
  | .long => 103
  | _ => 999
def z1nf (ci : Nat) : Nat := (zFL.getD ci []).length
def z1new (lim : Nat × Nat) (S : List z1c) (c : z1c) (k : List z1c → Option (List z1c)) : Option (List z1c) := match Nat.ble (S.length + 1) lim.1 && Nat.ble (z1s S + c.2.1) lim.2 with
  | true => k (S ++ [c])
  | false => none
def z1rows (n m b : Nat) : List z1c := (113, n, [], (List.range n).map fun i => (i, b + 1 + i)) :: List.replicate n (100, m, [], [])
def z1one (M : z1m) (lim : Nat × Nat) (i : Instr) (pc : Nat) (th : Nat) (st : List zV) (S : List z1c) (k : Nat → List zV → List z1c → Option (List z1c)) (cl : Nat → Nat → List z1c → Option (List z1c)) : Option (List z1c) := match i with
  | .aload_n n => match n.val with
    | 0 => k (pc + 1) ((2, Int.ofNat th) :: st) S
    | _ => none
  | .iconst n => k (pc + 1) ((0, n) :: st) S
  | .bipush n => k (pc + 2) ((0, n) :: st) S
  | .sipush n => k (pc + 3) ((0, n) :: st) S
  | .dup => match st with
    | (2, x) :: r => k (pc + 1) ((2, x) :: (2, x) :: r) S
    | _ => none
  | .new idx => match zat (z1Mn M) idx with
    | some (ci, _) => match Nat.blt ci 13 with
      | true => z1new lim S (ci, z1nf ci, [], []) (fun S' => k (pc + 3) ((2, Int.ofNat S.length) :: st) S')
      | false => none
    | none => none
  | .newarray at_ => match st with
    | (0, Int.ofNat n) :: r => match Nat.ble n 100000 && Nat.ble (z1at at_) 103 with
      | true => z1new lim S (z1at at_, n, [], []) (fun S' => k (pc + 2) ((2, Int.ofNat S.length) :: r) S')
      | false => none
    | _ => none
  | .anewarray idx => match st with
    | (0, Int.ofNat n) :: r => match zat (z1Mn M) (idx + 1000) with
      | some (kd, _) => match Nat.ble n 100000 && Nat.ble 110 kd && Nat.ble kd 112 with
        | true => z1new lim S (kd, n, [], []) (fun S' => k (pc + 3) ((2, Int.ofNat S.length) :: r) S')
        | false => none
      | none => none
    | _ => none
  | .multianewarray idx _ => match st with
    | (0, Int.ofNat m) :: (0, Int.ofNat n) :: r => match zat (z1Mn M) idx with
      | some (113, _) => match Nat.ble n 1000 && Nat.ble m 100000 && Nat.ble (S.length + (1 + n)) lim.1 && Nat.ble (z1s S + (n + n * m)) lim.2 with
        | true => k (pc + 4) ((2, Int.ofNat S.length) :: r) (S ++ z1rows n m S.length)
        | false => none
      | _ => none
    | _ => none
  | .aastore => match st with
    | (2, Int.ofNat v) :: (0, Int.ofNat i) :: (2, Int.ofNat a) :: r => match S[a]?, S[v]? with
      | some (kd, n, f, w), some (kv, _, _, _) => match Nat.blt i n && Nat.ble n 100000 && ((Nat.beq kd 110 && Nat.beq kv 9) || (Nat.beq kd 111 && Nat.beq kv 2) || (Nat.beq kd 112 && Nat.beq kv 4)) with
        | true => k (pc + 1) r (S.set a (kd, n, f, (i, v) :: w))
        | false => none
      | _, _ => none
    | _ => none
  | .iastore => match st with
    | (0, x) :: (0, Int.ofNat i) :: (2, Int.ofNat a) :: r => match S[a]? with
      | some (kd, n, f, w) => match Nat.blt i n && Nat.ble n 100000 && Nat.beq kd 100 with
        | true => k (pc + 1) r (S.set a (kd, n, (i, x) :: f, w))
        | false => none
      | none => none
    | _ => none
  | .putfield idx => match zat (z1Mf M) idx with
    | some (ci, sl, _) => match st with
      | (0, x) :: (2, Int.ofNat h) :: r => match S[h]? with
        | some (kd, n, f, w) => match Nat.beq kd ci && Nat.blt sl n && Nat.beq n (z1nf ci) && (Nat.beq (zfk ci sl) 0 || (Nat.beq (zfk ci sl) 1 && decide (x = 0 ∨ x = 1))) with
          | true => k (pc + 3) r (S.set h (kd, n, (sl, x) :: f, w))
          | false => none
        | none => none
      | (2, Int.ofNat v) :: (2, Int.ofNat h) :: r => match S[h]? with
        | some (kd, n, f, w) => match Nat.beq kd ci && Nat.blt sl n && Nat.beq n (z1nf ci) && Nat.beq (zfk ci sl) 2 with
          | true => k (pc + 3) r (S.set h (kd, n, f, (sl, v) :: w))
          | false => none
        | none => none
      | _ => none
    | none => none
  | .invokespecial idx => match zat (z1Mm M) idx with
    | some (ci, _) => match st with
      | (2, Int.ofNat h) :: r => match Nat.ble (zsm r) 8 with
        | true => match Nat.beq ci 99 with
          | true => k (pc + 3) r S
          | false => (cl ci h S).bind (fun S' => k (pc + 3) r S')
        | false => none
      | _ => none
    | none => none
  | .return_ => match st with
    | [] => some S
    | _ => none
  | _ => none
def z1x (T : List z1m) : Nat → Nat → Nat × Nat → z1m → Nat → Nat → List zV → List z1c → Option (List z1c)
  | 0, _, _, _, _, _, _, _ => none
  | f + 1, dd, lim, M, pc, th, st, S => match zat (z1Mc M) pc with
    | some (i, _) => z1one M lim i pc th st S (fun pc st S => z1x T f dd lim M pc th st S) (fun ci h S => match dd, T[ci]? with
      | e + 2, some M' => match z1x T f (e + 1) (S.length + z1b1 M', z1s S + z1b2 M') M' 0 h [] S with
        | some S' => match Nat.beq S'.length (S.length + z1b1 M') && Nat.beq (z1s S') (z1s S + z1b2 M') && Nat.ble S'.length lim.1 && Nat.ble (z1s S') lim.2 with
          | true => some S'
          | false => none
        | none => none
      | _, _ => none)
    | none => none
end
