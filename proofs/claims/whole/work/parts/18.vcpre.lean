section
def zHo (h : Nat) : Prop := h = 2 ∨ h = 17 ∨ h = 31 ∨ h = 56
def zPa (p : Nat) : Prop := p = 1 ∨ p = 16 ∨ p = 30 ∨ p = 55
def zSe (t : Nat) : Prop := t = 45 ∨ t = 47 ∨ t = 49 ∨ t = 51
def zHH (h g : Nat) : Prop := (h = 2 ∧ g = 56) ∨ (h = 17 ∧ g = 2) ∨ (h = 31 ∧ g = 2) ∨ (h = 2 ∧ g = 17) ∨ (h = 2 ∧ g = 31)
def zPP (p q : Nat) : Prop := (p = 1 ∧ q = 55) ∨ (p = 16 ∧ q = 1) ∨ (p = 30 ∧ q = 1) ∨ (p = 1 ∧ q = 16) ∨ (p = 1 ∧ q = 30)
def zjk : List Bool → List zV → List zV
  | true :: b, v :: l => v :: zjk b l
  | false :: b, _ :: l => (9, 0) :: zjk b l
  | _, l => l
theorem zjk_at : ∀ (b : List Bool) (l : List zV) (i : Nat) (v : zV), (zjk b l)[i]? = some v → v.1 < 9 → l[i]? = some v
  | [], l, i, v, h, _ => by simpa [zjk] using h
  | true :: b, [], i, v, h, _ => by simp [zjk] at h
  | false :: b, [], i, v, h, _ => by simp [zjk] at h
  | true :: b, u :: l, 0, v, h, _ => by simpa [zjk] using h
  | true :: b, u :: l, i + 1, v, h, hv => by
    rw [zjk, List.getElem?_cons_succ] at h
    rw [List.getElem?_cons_succ]
    exact zjk_at b l i v h hv
  | false :: b, u :: l, 0, v, h, hv => by
    rw [zjk] at h
    cases (show ((9 : Nat), (0 : Int)) = v by simpa using h)
    exact absurd hv (by decide)
  | false :: b, u :: l, i + 1, v, h, hv => by
    rw [zjk, List.getElem?_cons_succ] at h
    rw [List.getElem?_cons_succ]
    exact zjk_at b l i v h hv
theorem zjk_len : ∀ (b : List Bool) (l : List zV), (zjk b l).length = l.length
  | [], l => by simp [zjk]
  | true :: b, [] => by simp [zjk]
  | false :: b, [] => by simp [zjk]
  | true :: b, u :: l => by simp [zjk, zjk_len b l]
  | false :: b, u :: l => by simp [zjk, zjk_len b l]
theorem zjk_ok {b : List Bool} {l : List zV} (h : ∀ v ∈ l, zok v) : ∀ v ∈ zjk b l, zok v := by
  intro v hv
  obtain ⟨i, hi⟩ := List.getElem?_of_mem hv
  by_cases hv9 : v.1 < 9
  · exact h v (List.mem_of_getElem? (zjk_at b l i v hi hv9))
  · obtain ⟨t, x⟩ := v
    match t, hv9 with
    | 0, q => exact absurd (show 0 < 9 by decide) q
    | 1, q => exact absurd (show 1 < 9 by decide) q
    | t + 2, _ => trivial
/-- what isn't known any more -/
theorem zG.mask {d : Nat} {M : zMt} {pc : Nat} {ls st : List zV} {mem : zMem} {Q : Int → zMem → Prop} (b : List Bool) (h : zG d M pc (zjk b ls) st mem Q) : zG d M pc ls st mem Q :=
  fun p l e R s m args below meth c H locs cells slots Qf E lj C hc hs hH hS hL hl hst hR => h p l e R s m args below meth c H locs cells slots Qf E lj C hc hs hH hS ⟨hL.1, by rw [zjk_len]; exact hL.2.1, hL.2.2.1, fun i v hi hv => hL.2.2.2 i v (zjk_at b ls i v hi hv) hv⟩ (zjk_ok hl) hst hR
theorem zbd {A : Prop} {a : Nat} {i n : Int} (hk : A) (hn : (zln a : Int) = n) (h : 0 ≤ i ∧ i < n) : A ∧ 0 ≤ i ∧ i < zln a := ⟨hk, h.1, by rw [hn]; exact h.2⟩
theorem zba {a : Nat} {i n : Int} (h1 : 110 ≤ zkd a) (h2 : zkd a ≤ 113) (hn : (zln a : Int) = n) (h : 0 ≤ i ∧ i < n) : 110 ≤ zkd a ∧ zkd a ≤ 113 ∧ 0 ≤ i ∧ i < zln a := ⟨h1, h2, h.1, by rw [hn]; exact h.2⟩
theorem zal {a : Nat} (h : zkd a = 100) : 100 ≤ zkd a ∧ zkd a ≤ 103 := by omega
theorem zrb {a : Nat} {i n : Int} (hn : (zln a : Int) = n) (h : i ≤ n) : i ≤ zln a := by rw [hn]; exact h
theorem zsb {L : Nat} {i : Int} (h : 0 ≤ i ∧ i < L) : 0 ≤ i ∧ i + 1 < ((L + 1 : Nat) : Int) := by omega
theorem zi5 {P : Int → Prop} {n : Nat} (hp : ∀ k : Nat, k < n → P k) {i : Int} (h : 0 ≤ i ∧ i < n) : P i := by
  have := hp i.toNat (by omega)
  rw [Int.toNat_of_nonneg h.1] at this
  exact this
theorem zkw {a : Nat} (ha : a = 8 ∨ a = 23 ∨ a = 37 ∨ a = 62) {i : Int} (h : 0 ≤ i ∧ i < 5) : zkd (zrt a i.toNat) = 9 := by
  have key : ∀ k : Nat, k < 5 → zkd (zrt a k) = 9 := by rcases ha with rfl | rfl | rfl | rfl <;> decide +kernel
  exact key i.toNat (by omega)
theorem zkpa {i : Int} (h : 0 ≤ i ∧ i < 2) : zkd (zrt 15 i.toNat) = 2 := (show ∀ k : Nat, k < 2 → zkd (zrt 15 k) = 2 by decide +kernel) _ (by omega)
theorem zks {i : Int} (h : 0 ≤ i ∧ i < 4) : zkd (zrt 44 i.toNat) = 4 := (show ∀ k : Nat, k < 4 → zkd (zrt 44 k) = 4 by decide +kernel) _ (by omega)
theorem zksc {s : Nat} (h : zkd s = 4) : zkd (zrt s 0) = 100 := (show ∀ k : Nat, k < zNC → zkd k = 4 → zkd (zrt k 0) = 100 by decide +kernel) s (zkd_lt (by omega)) h
theorem zlsc {s : Nat} (h : zkd s = 4) : (zln (zrt s 0) : Int) = 40 := by have := (show ∀ k : Nat, k < zNC → zkd k = 4 → zln (zrt k 0) = 40 by decide +kernel) s (zkd_lt (by omega)) h; omega
theorem zkr_80 {i : Int} (h : 0 ≤ i ∧ i < 2) : zkd (zrt 80 i.toNat) = 100 := (show ∀ k : Nat, k < 2 → zkd (zrt 80 k) = 100 by decide +kernel) _ (by omega)
theorem zlr_80 {i : Int} (h : 0 ≤ i ∧ i < 2) : (zln (zrt 80 i.toNat) : Int) = 421 := by have := (show ∀ k : Nat, k < 2 → zln (zrt 80 k) = 421 by decide +kernel) i.toNat (by omega); omega
theorem zkr_83 {i : Int} (h : 0 ≤ i ∧ i < 2) : zkd (zrt 83 i.toNat) = 100 := (show ∀ k : Nat, k < 2 → zkd (zrt 83 k) = 100 by decide +kernel) _ (by omega)
theorem zlr_83 {i : Int} (h : 0 ≤ i ∧ i < 2) : (zln (zrt 83 i.toNat) : Int) = 421 := by have := (show ∀ k : Nat, k < 2 → zln (zrt 83 k) = 421 by decide +kernel) i.toNat (by omega); omega
theorem zkr_94 {i : Int} (h : 0 ≤ i ∧ i < 5) : zkd (zrt 94 i.toNat) = 100 := (show ∀ k : Nat, k < 5 → zkd (zrt 94 k) = 100 by decide +kernel) _ (by omega)
theorem zlr_94 {i : Int} (h : 0 ≤ i ∧ i < 5) : (zln (zrt 94 i.toNat) : Int) = 30 := by have := (show ∀ k : Nat, k < 5 → zln (zrt 94 k) = 30 by decide +kernel) i.toNat (by omega); omega
theorem zkr_100 {i : Int} (h : 0 ≤ i ∧ i < 5) : zkd (zrt 100 i.toNat) = 100 := (show ∀ k : Nat, k < 5 → zkd (zrt 100 k) = 100 by decide +kernel) _ (by omega)
theorem zlr_100 {i : Int} (h : 0 ≤ i ∧ i < 5) : (zln (zrt 100 i.toNat) : Int) = 30 := by have := (show ∀ k : Nat, k < 5 → zln (zrt 100 k) = 30 by decide +kernel) i.toNat (by omega); omega
theorem zkr_106 {i : Int} (h : 0 ≤ i ∧ i < 5) : zkd (zrt 106 i.toNat) = 100 := (show ∀ k : Nat, k < 5 → zkd (zrt 106 k) = 100 by decide +kernel) _ (by omega)
theorem zlr_106 {i : Int} (h : 0 ≤ i ∧ i < 5) : (zln (zrt 106 i.toNat) : Int) = 30 := by have := (show ∀ k : Nat, k < 5 → zln (zrt 106 k) = 30 by decide +kernel) i.toNat (by omega); omega
theorem zkr_113 {i : Int} (h : 0 ≤ i ∧ i < 4) : zkd (zrt 113 i.toNat) = 100 := (show ∀ k : Nat, k < 4 → zkd (zrt 113 k) = 100 by decide +kernel) _ (by omega)
theorem zlr_113 {i : Int} (h : 0 ≤ i ∧ i < 4) : (zln (zrt 113 i.toNat) : Int) = 10 := by have := (show ∀ k : Nat, k < 4 → zln (zrt 113 k) = 10 by decide +kernel) i.toNat (by omega); omega
end
