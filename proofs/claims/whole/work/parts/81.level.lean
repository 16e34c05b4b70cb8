section
/-! Searches level by level, over any states. -/
variable {σ : Type} {s0 : σ → Prop} {stp : σ → σ → Prop} {T : σ → Prop} {x y : σ} {n m : Nat}
def lvP (s0 : σ → Prop) (stp : σ → σ → Prop) : Nat → (σ → Prop) × (σ → Prop)
  | 0 => (s0, s0)
  | n + 1 => (fun y => (∃ x, (lvP s0 stp n).1 x ∧ stp x y) ∧ ¬ (lvP s0 stp n).2 y, fun y => (lvP s0 stp n).2 y ∨ ((∃ x, (lvP s0 stp n).1 x ∧ stp x y) ∧ ¬ (lvP s0 stp n).2 y))
def lvF (s0 : σ → Prop) (stp : σ → σ → Prop) (n : Nat) (x : σ) : Prop := (lvP s0 stp n).1 x
def lvB (s0 : σ → Prop) (stp : σ → σ → Prop) (n : Nat) (x : σ) : Prop := (lvP s0 stp n).2 x
theorem lvF_0 : lvF s0 stp 0 x ↔ s0 x := Iff.rfl
theorem lvB_0 : lvB s0 stp 0 x ↔ s0 x := Iff.rfl
theorem lvF_s : lvF s0 stp (n + 1) y ↔ (∃ x, lvF s0 stp n x ∧ stp x y) ∧ ¬ lvB s0 stp n y := Iff.rfl
theorem lvB_s : lvB s0 stp (n + 1) y ↔ lvB s0 stp n y ∨ lvF s0 stp (n + 1) y := Iff.rfl
theorem lvB_s' : lvB s0 stp (n + 1) y ↔ lvB s0 stp n y ∨ ∃ x, lvF s0 stp n x ∧ stp x y := by
  rw [lvB_s, lvF_s]
  constructor
  · rintro (q | q)
    · exact Or.inl q
    · exact Or.inr q.1
  · rintro (q | q)
    · exact Or.inl q
    · by_cases z : lvB s0 stp n y
      · exact Or.inl z
      · exact Or.inr ⟨q, z⟩
theorem lvB_iff : ∀ n, lvB s0 stp n x ↔ ∃ m, m ≤ n ∧ lvF s0 stp m x
  | 0 => by
    rw [lvB_0]
    constructor
    · intro q; exact ⟨0, Nat.le_refl _, q⟩
    · rintro ⟨m, q1, q2⟩
      rw [show m = 0 by omega] at q2
      exact q2
  | n + 1 => by
    rw [lvB_s, lvB_iff n]
    constructor
    · rintro (⟨m, q1, q2⟩ | q)
      · exact ⟨m, by omega, q2⟩
      · exact ⟨n + 1, Nat.le_refl _, q⟩
    · rintro ⟨m, q1, q2⟩
      by_cases e : m = n + 1
      · rw [e] at q2; exact Or.inr q2
      · exact Or.inl ⟨m, by omega, q2⟩
theorem lvF_lt (h : n < m) (h1 : lvF s0 stp n x) : ¬ lvF s0 stp m x := by
  intro h2
  obtain ⟨k, rfl⟩ : ∃ k, m = k + 1 := ⟨m - 1, by omega⟩
  exact h2.2 ((lvB_iff k).mpr ⟨n, by omega, h1⟩)
theorem lvF_fn (h1 : lvF s0 stp n x) (h2 : lvF s0 stp m x) : n = m := by
  rcases Nat.lt_trichotomy n m with q | q | q
  · exact absurd h2 (lvF_lt q h1)
  · exact q
  · exact absurd h1 (lvF_lt q h2)
theorem lvF_dn : ∀ (n : Nat) (x : σ), lvF s0 stp n x → ∀ m, m ≤ n → ∃ y, lvF s0 stp m y
  | 0, x, h, m, hm => by
    rw [show m = 0 by omega]
    exact ⟨x, h⟩
  | n + 1, x, h, m, hm => by
    by_cases e : m = n + 1
    · rw [e]; exact ⟨x, h⟩
    · obtain ⟨⟨z, h1, -⟩, -⟩ := h
      exact lvF_dn n z h1 m (by omega)
/-- there are no more levels than states -/
theorem lv_len {code : σ → Nat} {N : Nat} (hc : ∀ n x, lvF s0 stp n x → code x < N) (hi : ∀ n m x y, lvF s0 stp n x → lvF s0 stp m y → code x = code y → x = y) (h : lvF s0 stp n x) : n < N := by
  have hd := lvF_dn n x h
  have hf : ∀ m, ∃ c, m ≤ n → ∃ y, lvF s0 stp m y ∧ code y = c := by
    intro m
    by_cases q : m ≤ n
    · obtain ⟨y, hy⟩ := hd m q
      exact ⟨code y, fun _ => ⟨y, hy, rfl⟩⟩
    · exact ⟨0, fun z => absurd z q⟩
  refine zpig N (n + 1) (fun m => Classical.choose (hf m)) (fun m hm => ?_) (fun i j hij hj => ?_)
  · obtain ⟨y, h1, h2⟩ := Classical.choose_spec (hf m) (by omega)
    rw [← h2]
    exact hc m y h1
  · obtain ⟨y, h1, h2⟩ := Classical.choose_spec (hf i) (by omega)
    obtain ⟨z, h3, h4⟩ := Classical.choose_spec (hf j) (by omega)
    intro q
    rw [← h2, ← h4] at q
    have e := hi i j y z h1 h3 q
    rw [← e] at h3
    have := lvF_fn h1 h3
    omega
def lvH (s0 : σ → Prop) (stp : σ → σ → Prop) (T : σ → Prop) (n : Nat) : Prop := ∃ x, lvF s0 stp n x ∧ T x
/-- the first level that has it; -4: none has -/
def lvA (s0 : σ → Prop) (stp : σ → σ → Prop) (T : σ → Prop) (v : Int) : Prop := (∃ n : Nat, v = n ∧ lvH s0 stp T n ∧ ∀ m, m < n → ¬ lvH s0 stp T m) ∨ (v = -4 ∧ ∃ n, (∀ x, ¬ lvF s0 stp n x) ∧ ∀ m, m < n → ¬ lvH s0 stp T m)
theorem lvE_up (h : ∀ x, ¬ lvF s0 stp n x) : ∀ m, n ≤ m → ∀ x, ¬ lvF s0 stp m x := by
  intro m hm x hx
  obtain ⟨y, hy⟩ := lvF_dn m x hx n hm
  exact h y hy
theorem lvA_fn {v v' : Int} (h : lvA s0 stp T v) (h' : lvA s0 stp T v') : v = v' := by
  rcases h with ⟨n, a1, a2, a3⟩ | ⟨a1, n, a2, a3⟩ <;> rcases h' with ⟨n', b1, b2, b3⟩ | ⟨b1, n', b2, b3⟩
  · rcases Nat.lt_trichotomy n n' with q | q | q
    · exact absurd a2 (b3 n q)
    · rw [a1, b1, q]
    · exact absurd b2 (a3 n' q)
  · rcases Nat.lt_or_ge n n' with q | q
    · exact absurd a2 (b3 n q)
    · obtain ⟨x, h1, -⟩ := a2
      exact absurd h1 (lvE_up b2 n q x)
  · rcases Nat.lt_or_ge n' n with q | q
    · exact absurd b2 (a3 n' q)
    · obtain ⟨x, h1, -⟩ := b2
      exact absurd h1 (lvE_up a2 n' q x)
  · rw [a1, b1]
/-- a step that has it is fresh, if no earlier level had it -/
theorem lv_hit (hno : ∀ m, m < n + 1 → ¬ lvH s0 stp T m) (h1 : lvF s0 stp n x) (h2 : stp x y) (h3 : T y) : lvH s0 stp T (n + 1) := by
  refine ⟨y, lvF_s.mpr ⟨⟨x, h1, h2⟩, fun q => ?_⟩, h3⟩
  obtain ⟨m, m1, m2⟩ := (lvB_iff n).mp q
  exact hno m (by omega) ⟨y, m2, h3⟩
theorem lv_hit' (h : lvH s0 stp T (n + 1)) : ∃ x y, lvF s0 stp n x ∧ stp x y ∧ T y := by
  obtain ⟨y, ⟨⟨x, h1, h2⟩, -⟩, h3⟩ := h
  exact ⟨x, y, h1, h2, h3⟩
end
section
/-! More of bits. -/
theorem zB_shlN {x : Int} {a j : Nat} (ha : a < 32) (hj : j < 32) : zB (zshl x (a : Int)) j ↔ a ≤ j ∧ zB x (j - a) := by
  unfold zB
  rw [zshl_w (by omega), Int.toNat_natCast, zb_nat, zb_nat]
  have e1 : (w32 (x * 2 ^ a)) % 4294967296 = (x % 4294967296 * 2 ^ a) % 4294967296 := by
    have : w32 (x * 2 ^ a) % 4294967296 = (x * 2 ^ a) % 4294967296 := by
      generalize x * 2 ^ a = y
      unfold w32
      omega
    rw [this, Int.mul_emod, ← Int.emod_emod x 4294967296, ← Int.mul_emod]
    rw [Int.emod_emod]
  rw [e1]
  have h0 : 0 ≤ x % 4294967296 := Int.emod_nonneg _ (by decide)
  generalize x % 4294967296 = y at h0
  obtain ⟨n, rfl⟩ := Int.eq_ofNat_of_zero_le h0
  have e2 : ((n : Int) * 2 ^ a % 4294967296).toNat = n * 2 ^ a % 2 ^ 32 := by
    have : ((n : Int) * 2 ^ a) = ((n * 2 ^ a : Nat) : Int) := by simp
    rw [this]
    have h3 : (((n * 2 ^ a : Nat) : Int) % 4294967296) = ((n * 2 ^ a % 4294967296 : Nat) : Int) := by simp
    rw [h3]
    rfl
  rw [e2, Nat.testBit_mod_two_pow, ← Nat.shiftLeft_eq, Nat.testBit_shiftLeft]
  simp [hj]
theorem zB_natr {n : Nat} (h : n < 2147483648) (k : Nat) : zB (n : Int) k ↔ n.testBit k = true := by
  unfold zB
  rw [zbn h]
end
