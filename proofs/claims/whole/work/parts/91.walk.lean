section
/-! Walks, and a search by a queue, over any states. -/
variable {σ τ : Type} {s0 : σ → Prop} {stp : σ → σ → Prop} {T : σ → Prop} {x y : σ} {n m : Nat}
def wk (s0 : σ → Prop) (stp : σ → σ → Prop) : Nat → σ → Prop
  | 0 => s0
  | n + 1 => fun y => ∃ x, wk s0 stp n x ∧ stp x y
/-- the least number of steps to it; -4: none leads to it -/
def wkA (s0 : σ → Prop) (stp : σ → σ → Prop) (T : σ → Prop) (v : Int) : Prop := (∃ n : Nat, v = n ∧ (∃ x, wk s0 stp n x ∧ T x) ∧ ∀ m, m < n → ∀ x, wk s0 stp m x → ¬ T x) ∨ (v = -4 ∧ ∀ m x, wk s0 stp m x → ¬ T x)
theorem wkA_fn {v v' : Int} (h : wkA s0 stp T v) (h' : wkA s0 stp T v') : v = v' := by
  rcases h with ⟨n, a1, ⟨x, a2, a4⟩, a3⟩ | ⟨a1, a2⟩ <;> rcases h' with ⟨n', b1, ⟨x', b2, b4⟩, b3⟩ | ⟨b1, b2⟩
  · rcases Nat.lt_trichotomy n n' with q | q | q
    · exact absurd a4 (b3 n q x a2)
    · rw [a1, b1, q]
    · exact absurd b4 (a3 n' q x' b2)
  · exact absurd a4 (b2 n x a2)
  · exact absurd b4 (a2 n' x' b2)
  · rw [a1, b1]
theorem lvF_wk : ∀ (n : Nat) (x : σ), lvF s0 stp n x → wk s0 stp n x
  | 0, x, h => h
  | n + 1, x, h => by
    obtain ⟨⟨z, h1, h2⟩, -⟩ := h
    exact ⟨z, lvF_wk n z h1, h2⟩
theorem wk_lv : ∀ (n : Nat) (x : σ), wk s0 stp n x → ∃ m, m ≤ n ∧ lvF s0 stp m x
  | 0, x, h => ⟨0, Nat.le_refl _, h⟩
  | n + 1, x, h => by
    obtain ⟨z, h1, h2⟩ := h
    obtain ⟨m, m1, m2⟩ := wk_lv n z h1
    have : lvB s0 stp (m + 1) x := lvB_s'.mpr (Or.inr ⟨z, m2, h2⟩)
    obtain ⟨k, k1, k2⟩ := (lvB_iff (m + 1)).mp this
    exact ⟨k, by omega, k2⟩
theorem lvA_wk {v : Int} (h : lvA s0 stp T v) : wkA s0 stp T v := by
  rcases h with ⟨n, a1, ⟨x, a2, a4⟩, a3⟩ | ⟨a1, n, a2, a3⟩
  · refine Or.inl ⟨n, a1, ⟨x, lvF_wk n x a2, a4⟩, fun m hm y hy ht => ?_⟩
    obtain ⟨k, k1, k2⟩ := wk_lv m y hy
    exact a3 k (by omega) ⟨y, k2, ht⟩
  · refine Or.inr ⟨a1, fun m y hy ht => ?_⟩
    obtain ⟨k, k1, k2⟩ := wk_lv m y hy
    rcases Nat.lt_or_ge k n with q | q
    · exact a3 k q ⟨y, k2, ht⟩
    · exact lvE_up a2 k q y k2
theorem wkA_map {I : σ → Prop} {f : σ → τ} {s0' : τ → Prop} {stp' : τ → τ → Prop} {T' : τ → Prop} {v : Int} (i0 : ∀ x, s0 x → I x) (i1 : ∀ x y, I x → stp x y → I y) (h0 : ∀ x, s0 x → s0' (f x)) (h0' : ∀ y, s0' y → ∃ x, s0 x ∧ f x = y) (h1 : ∀ x y, I x → stp x y → stp' (f x) (f y)) (h1' : ∀ x y', I x → stp' (f x) y' → ∃ y, stp x y ∧ f y = y') (hT : ∀ x, I x → (T x ↔ T' (f x))) (h : wkA s0 stp T v) : wkA s0' stp' T' v := by
  have a : ∀ n x, wk s0 stp n x → I x ∧ wk s0' stp' n (f x) := by
    intro n
    induction n with
    | zero => intro x hx; exact ⟨i0 x hx, h0 x hx⟩
    | succ n ih =>
      rintro x ⟨z, z1, z2⟩
      obtain ⟨b1, b2⟩ := ih z z1
      exact ⟨i1 z x b1 z2, f z, b2, h1 z x b1 z2⟩
  have b : ∀ n y, wk s0' stp' n y → ∃ x, wk s0 stp n x ∧ f x = y := by
    intro n
    induction n with
    | zero => intro y hy; exact h0' y hy
    | succ n ih =>
      rintro y ⟨z, z1, z2⟩
      obtain ⟨x, x1, x2⟩ := ih z z1
      rw [← x2] at z2
      obtain ⟨w, w1, w2⟩ := h1' x y (a n x x1).1 z2
      exact ⟨w, ⟨x, x1, w1⟩, w2⟩
  rcases h with ⟨n, a1, ⟨x, a2, a4⟩, a3⟩ | ⟨a1, a2⟩
  · refine Or.inl ⟨n, a1, ⟨f x, (a n x a2).2, (hT x (a n x a2).1).mp a4⟩, fun m hm y hy ht => ?_⟩
    obtain ⟨w, w1, w2⟩ := b m y hy
    rw [← w2] at ht
    exact a3 m hm w w1 ((hT w (a m w w1).1).mpr ht)
  · refine Or.inr ⟨a1, fun m y hy ht => ?_⟩
    obtain ⟨w, w1, w2⟩ := b m y hy
    rw [← w2] at ht
    exact a2 m w w1 ((hT w (a m w w1).1).mpr ht)
/-- there are no more levels than states: of a search that has come so far -/
theorem lv_lenB {code : σ → Nat} {N : Nat} (hc : ∀ m x, m ≤ n → lvF s0 stp m x → code x < N) (hi : ∀ i j x y, i ≤ n → j ≤ n → lvF s0 stp i x → lvF s0 stp j y → code x = code y → x = y) (h : lvF s0 stp n x) : n < N := by
  have hd := lvF_dn n x h
  have hf : ∀ m, ∃ c, m ≤ n → ∃ y, lvF s0 stp m y ∧ code y = c := by
    intro m
    by_cases q : m ≤ n
    · obtain ⟨y, hy⟩ := hd m q
      exact ⟨code y, fun _ => ⟨y, hy, rfl⟩⟩
    · exact ⟨0, fun z => absurd z q⟩
  refine zpig N (n + 1) (fun m => Classical.choose (hf m)) (fun m hm => ?_) (fun i j hij hj => ?_)
  · obtain ⟨y, h1, h2⟩ := Classical.choose_spec (hf m) (by omega)
    rw [← h2]
    exact hc m y (by omega) h1
  · obtain ⟨y, h1, h2⟩ := Classical.choose_spec (hf i) (by omega)
    obtain ⟨z, h3, h4⟩ := Classical.choose_spec (hf j) (by omega)
    intro q
    rw [← h2, ← h4] at q
    have e := hi i j y z (by omega) (by omega) h1 h3 q
    rw [← e] at h3
    have := lvF_fn h1 h3
    omega
/-- a queue: n found, x of them done, P the ways on from the x-th that are laid -/
def qS (s0 : σ → Prop) (stp : σ → σ → Prop) (T : σ → Prop) (n : Nat) (q : Nat → σ) (D : σ → Int) (x : Nat) (P : σ → Prop) : Prop :=
  x ≤ n ∧ (∀ i, i < n → ∃ m : Nat, D (q i) = m ∧ wk s0 stp m (q i)) ∧ (∀ i j, i ≤ j → j < n → D (q i) ≤ D (q j)) ∧ (x < n → ∀ j, j < n → D (q j) ≤ D (q x) + 1) ∧ (∀ y, s0 y → ∃ i, i < n ∧ q i = y ∧ D y ≤ 0) ∧ (∀ i, i < x → ¬ T (q i)) ∧ (∀ i, i < x → ∀ y, stp (q i) y → ∃ j, j < n ∧ q j = y ∧ D y ≤ D (q i) + 1) ∧ ∀ y, P y → ∃ j, j < n ∧ q j = y ∧ D y ≤ D (q x) + 1
variable {q q' : Nat → σ} {D D' : σ → Int} {P P' : σ → Prop} {k : Nat}
theorem qS.cg (h : qS s0 stp T n q D k P) (hP : ∀ y, P' y → P y) : qS s0 stp T n q D k P' := by
  obtain ⟨a1, a2, a3, a4, a5, a6, a7, a8⟩ := h
  exact ⟨a1, a2, a3, a4, a5, a6, a7, fun y hy => a8 y (hP y hy)⟩
/-- all the ways on are laid: the next -/
theorem qS.next (h : qS s0 stp T n q D k P) (hk : k < n) (hT : ¬ T (q k)) (hP : ∀ y, stp (q k) y → P y) : qS s0 stp T n q D (k + 1) (fun _ => False) := by
  obtain ⟨a1, a2, a3, a4, a5, a6, a7, a8⟩ := h
  refine ⟨hk, a2, a3, fun h j hj => ?_, a5, fun i hi => ?_, fun i hi y hy => ?_, fun y hy => hy.elim⟩
  · have := a4 hk j hj
    have := a3 k (k + 1) (by omega) h
    omega
  · by_cases e : i = k
    · rw [e]; exact hT
    · exact a6 i (by omega)
  · by_cases e : i = k
    · rw [e] at hy ⊢
      exact a8 y (hP y hy)
    · exact a7 i (by omega) y hy
/-- one more way is laid, to one that was found before -/
theorem qS.old (h : qS s0 stp T n q D k P) (hk : k < n) {z : σ} (hz : ∃ j, j < n ∧ q j = z) : qS s0 stp T n q D k (fun y => P y ∨ y = z) := by
  obtain ⟨a1, a2, a3, a4, a5, a6, a7, a8⟩ := h
  refine ⟨a1, a2, a3, a4, a5, a6, a7, ?_⟩
  rintro y (hy | hy)
  · exact a8 y hy
  · obtain ⟨j, j1, j2⟩ := hz
    refine ⟨j, j1, by rw [j2, hy], ?_⟩
    have := a4 hk j j1
    rw [j2, ← hy] at this
    exact this
/-- one more way is laid, to a new one -/
theorem qS.new (h : qS s0 stp T n q D k P) (hk : k < n) {z : σ} (hs : stp (q k) z) (hz : ∀ j, j < n → q j ≠ z) (e1 : ∀ i, i < n → q' i = q i) (e2 : q' n = z) (e3 : D' z = D (q k) + 1) (e4 : ∀ i, i < n → D' (q i) = D (q i)) : qS s0 stp T (n + 1) q' D' k (fun y => P y ∨ y = z) := by
  obtain ⟨a1, a2, a3, a4, a5, a6, a7, a8⟩ := h
  have eD : ∀ i, i < n → D' (q' i) = D (q i) := fun i hi => by rw [e1 i hi, e4 i hi]
  have eN : D' (q' n) = D (q k) + 1 := by rw [e2, e3]
  have up : ∀ y c, (∃ j, j < n ∧ q j = y ∧ D y ≤ c) → ∃ j, j < n + 1 ∧ q' j = y ∧ D' y ≤ c := by
    rintro y c ⟨j, j1, j2, j3⟩
    refine ⟨j, by omega, by rw [e1 j j1, j2], ?_⟩
    rw [← j2, e4 j j1, j2]
    exact j3
  refine ⟨by omega, fun i hi => ?_, fun i j hij hj => ?_, fun _ j hj => ?_, fun y hy => up y _ (a5 y hy), fun i hi => ?_, fun i hi y hy => ?_, ?_⟩
  · by_cases e : i = n
    · obtain ⟨m, m1, m2⟩ := a2 k hk
      refine ⟨m + 1, by rw [e, eN, m1]; omega, ?_⟩
      rw [e, e2]
      exact ⟨q k, m2, hs⟩
    · rw [eD i (by omega), e1 i (by omega)]
      exact a2 i (by omega)
  · by_cases e : j = n
    · rw [e, eN]
      by_cases e' : i = n
      · rw [e', eN]; omega
      · rw [eD i (by omega)]
        exact a4 hk i (by omega)
    · rw [eD j (by omega), eD i (by omega)]
      exact a3 i j hij (by omega)
  · rw [eD k hk]
    by_cases e : j = n
    · rw [e, eN]; omega
    · rw [eD j (by omega)]
      exact a4 hk j (by omega)
  · rw [e1 i (by omega)]
    exact a6 i hi
  · rw [e1 i (by omega)] at hy ⊢
    rw [e4 i (by omega)]
    exact up y _ (a7 i hi y hy)
  · rw [eD k hk]
    rintro y (hy | hy)
    · exact up y _ (a8 y hy)
    · exact ⟨n, by omega, by rw [e2, hy], by rw [hy, e3]; omega⟩
theorem qS.in_ (h : qS s0 stp T n q D k P) {c : Int} (hc : ∀ i, i < n → D (q i) < c → i < k) : ∀ (j : Nat) (y : σ), (j : Int) < c → wk s0 stp j y → ∃ i, i < k ∧ i < n ∧ q i = y ∧ D y ≤ j := by
  obtain ⟨a1, a2, a3, a4, a5, a6, a7, a8⟩ := h
  intro j
  induction j with
  | zero =>
    intro y hj hy
    obtain ⟨i, i1, i2, i3⟩ := a5 y hy
    exact ⟨i, hc i i1 (by rw [i2]; omega), i1, i2, by omega⟩
  | succ j ih =>
    rintro y hj ⟨z, z1, z2⟩
    obtain ⟨i, i0, i1, i2, i3⟩ := ih z (by omega) z1
    rw [← i2] at z2
    obtain ⟨r, r1, r2, r3⟩ := a7 i i0 y z2
    rw [i2] at r3
    exact ⟨r, hc r r1 (by rw [r2]; omega), r1, r2, by omega⟩
theorem qS.hit (h : qS s0 stp T n q D k P) (hk : k < n) (hT : T (q k)) : wkA s0 stp T (D (q k)) := by
  obtain ⟨a1, a2, a3, a4, a5, a6, a7, a8⟩ := id h
  obtain ⟨m, m1, m2⟩ := a2 k hk
  refine Or.inl ⟨m, m1, ⟨_, m2, hT⟩, fun j hj y hy ht => ?_⟩
  obtain ⟨i, i0, i1, i2, i3⟩ := h.in_ (c := m) (fun i hi hd => by
    rcases Nat.lt_or_ge i k with q | q
    · exact q
    · have := a3 k i q hi
      omega) j y (by omega) hy
  rw [← i2] at ht
  exact a6 i i0 ht
theorem qS.none (h : qS s0 stp T n q D n P) : wkA s0 stp T (-4) := by
  obtain ⟨a1, a2, a3, a4, a5, a6, a7, a8⟩ := id h
  refine Or.inr ⟨rfl, fun j y hy ht => ?_⟩
  obtain ⟨i, i0, i1, i2, i3⟩ := h.in_ (c := j + 1) (fun i hi _ => hi) j y (by omega) hy
  rw [← i2] at ht
  exact a6 i i0 ht
end
section
/-! The reference's queue of two. -/
variable {d w : Nat} {mem m m' m2 : zMem} {Q : Int → zMem → Prop} {q q' : Nat → Nat} {D D' : Nat → Int} {n : Nat}
def tQ (m : zMem) (n : Nat) (q : Nat → Nat) (D : Nat → Int) : Prop := m 122 33 = n ∧ n ≤ 8664 ∧ (∀ i, i < n → m 138 i = (q i : Int) ∧ q i < 8664 ∧ D (q i) ≠ -4) ∧ (∀ i j, i < j → j < n → q i ≠ q j) ∧ ∀ y, y < 8664 → m 137 y = D y ∧ (D y ≠ -4 → ∃ i, i < n ∧ q i = y)
def tFr (mem m' : zMem) : Prop := (∀ k, k ≠ 122 → k ≠ 137 → k ≠ 138 → m' k = mem k) ∧ ∀ j, j ≠ 33 → m' 122 j = mem 122 j
theorem tFr.refl : tFr mem mem := ⟨fun _ _ _ _ => rfl, fun _ _ => rfl⟩
theorem tFr.trans (h : tFr mem m') (h' : tFr m' m2) : tFr mem m2 := ⟨fun k k1 k2 k3 => by rw [h'.1 k k1 k2 k3, h.1 k k1 k2 k3], fun j hj => by rw [h'.2 j hj, h.2 j hj]⟩
theorem tFr.sc (h : tFr mem m') : zKp mem m' := ⟨fun k hk => h.1 k (by omega) (by omega) (by omega), fun k k1 k2 => h.1 k (by omega) (by omega) (by omega), fun k k1 k2 => h.1 k (by omega) (by omega) (by omega), fun j hj => h.2 j (by omega)⟩
theorem tFr.pg (h : tFr mem m') : m' 123 = mem 123 := h.1 123 (by omega) (by omega) (by omega)
theorem c_Mo_findsTwo (h : tQ mem n q D) {y : Nat} (hy : y < 8664) {f : Int} (hf : f ≠ -4) (hQ1 : D y ≠ -4 → Q 0 mem) (hQ2 : D y = -4 → ∀ m' q' D', tQ m' (n + 1) q' D' → (∀ i, i < n → q' i = q i) → q' n = y → D' y = f → (∀ z, z ≠ y → D' z = D z) → tFr mem m' → Q 0 m') : zC (d + 1) K_Mo_findsTwo [(2, Int.ofNat 122), (0, (y : Int)), (0, f)] mem Q := by
  obtain ⟨t1, t2, t3, t4, t5⟩ := h
  refine v_Mo_findsTwo ?_
  rw [Int.toNat_natCast, (t5 y hy).1]
  refine ⟨by omega, hQ1, fun c => ⟨by omega, fun m1 e1 => ?_⟩⟩
  have g1 : m1 122 33 = n := by rw [e1, zup_k (by omega), t1]
  have hnew : ∀ i, i < n → q i ≠ y := fun i hi e => (t3 i hi).2.2 (by rw [e]; exact c)
  have hn : n < 8664 := by
    have := zpig 8664 (n + 1) (fun i => if i < n then q i else y) (fun i hi => by
      show (if i < n then q i else y) < 8664
      split
      · rename_i z; exact (t3 i z).2.1
      · exact hy) (fun i j hij hj => by
      show (if i < n then q i else y) ≠ (if j < n then q j else y)
      rw [if_pos (show i < n by omega)]
      split
      · rename_i z; exact t4 i j hij z
      · exact hnew i (by omega))
    omega
  rw [g1]
  refine ⟨by omega, fun m2 e2 m3 e3 => ?_⟩
  have g2 : m2 122 33 = n := by rw [e2, zup_k (by omega), g1]
  rw [g2, za (by omega)] at e3
  rw [Int.toNat_natCast] at e2
  refine hQ2 c m3 (fun i => if i = n then y else q i) (fun z => if z = y then f else D z) ⟨?_, by omega, fun i hi => ?_, fun i j hij hj => ?_, fun z hz => ⟨?_, fun hd => ?_⟩⟩ (fun i hi => if_neg (by omega)) (if_pos rfl) (if_pos rfl) (fun z hz => if_neg hz) ⟨fun k k1 k2 k3 => ?_, fun j hj => ?_⟩
  · rw [e3, zup_e]; omega
  · show m3 138 i = ((if i = n then y else q i : Nat) : Int) ∧ (if i = n then y else q i) < 8664 ∧ (if (if i = n then y else q i) = y then f else D (if i = n then y else q i)) ≠ -4
    by_cases e : i = n
    · rw [if_pos e, if_pos rfl]
      refine ⟨?_, hy, hf⟩
      rw [e3, zup_k (by omega), e2, e, zup_e]
    · rw [if_neg e, if_neg (hnew i (by omega))]
      obtain ⟨b1, b2, b3⟩ := t3 i (by omega)
      refine ⟨?_, b2, b3⟩
      rw [e3, zup_k (by omega), e2, zup_j (by omega), e1, zup_k (by omega), b1]
  · show (if i = n then y else q i) ≠ (if j = n then y else q j)
    rw [if_neg (show i ≠ n by omega)]
    split
    · exact hnew i (by omega)
    · exact t4 i j hij (by omega)
  · show m3 137 z = if z = y then f else D z
    rw [e3, zup_k (by omega), e2, zup_k (by omega), e1, zup_at]
    by_cases e : z = y
    · rw [if_pos ⟨rfl, e⟩, if_pos e]
    · rw [if_neg (fun w => e w.2), if_neg e, (t5 z hz).1]
  · by_cases e : z = y
    · exact ⟨n, by omega, by show (if n = n then y else q n) = z; rw [if_pos rfl, e]⟩
    · have hd' : D z ≠ -4 := by
        have : (if z = y then f else D z) ≠ -4 := hd
        rw [if_neg e] at this
        exact this
      obtain ⟨i, i1, i2⟩ := (t5 z hz).2 hd'
      exact ⟨i, by omega, by show (if i = n then y else q i) = z; rw [if_neg (by omega), i2]⟩
  · funext j
    rw [e3, zup_k k1, e2, zup_k k3, e1, zup_k k2]
  · rw [e3, zup_j hj, e2, zup_k (by omega), e1, zup_k (by omega)]
theorem c_Mo_beginsTwo (hQ : ∀ m' : zMem, tQ m' 0 (fun _ => 0) (fun _ => -4) → tFr mem m' → Q 0 m') : zC (d + 1) K_Mo_beginsTwo [(2, Int.ofNat 122)] mem Q := by
  have loop : ∀ (n i : Nat) (m : zMem), i + n = 8664 → (∀ p, p < i → m 137 p = -4) → m 122 33 = 0 → tFr mem m → zG (d + 1) M_Mo_beginsTwo 7 [(2, Int.ofNat 122), (0, (i : Int))] [] m Q := by
    intro n
    induction n with
    | zero =>
      intro i m hi h1 h2 hf
      refine v_Mo_beginsTwo_7 ⟨fun c => hQ m ⟨h2, by omega, fun i hi => absurd hi (Nat.not_lt_zero _), fun i j _ hj => absurd hj (Nat.not_lt_zero _), fun y hy => ⟨h1 y (by omega), fun z => absurd rfl z⟩⟩ hf, fun c => by omega⟩
    | succ n ih =>
      intro i m hi h1 h2 hf
      refine v_Mo_beginsTwo_7 ⟨fun c => by omega, fun c => ⟨by omega, fun m1 e1 x1 ex => ?_⟩⟩
      rw [za (by omega)] at ex
      rw [Int.toNat_natCast] at e1
      rw [ex]
      refine ih (i + 1) m1 (by omega) (fun p hp => ?_) (by rw [e1, zup_k (by omega), h2]) ⟨fun k k1 k2 k3 => ?_, fun j hj => ?_⟩
      · rw [e1, zup_at]
        by_cases e : p = i
        · rw [if_pos ⟨rfl, e⟩]
        · rw [if_neg (fun w => e w.2), h1 p (by omega)]
      · funext j; rw [e1, zup_k k2, hf.1 k k1 k2 k3]
      · rw [e1, zup_k (by omega), hf.2 j hj]
  refine v_Mo_beginsTwo fun m1 e1 => loop 8664 0 m1 (by omega) (fun p hp => by omega) (by rw [e1, zup_e]) ⟨fun k k1 k2 k3 => by funext j; rw [e1, zup_k k1], fun j hj => by rw [e1, zup_j hj]⟩
end
