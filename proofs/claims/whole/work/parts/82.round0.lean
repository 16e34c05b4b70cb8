section
/-! round: sets of told rooms. -/
variable {d w : Nat} {mem m m' m2 : zMem} {Q : Int → zMem → Prop} {R S : zMem → Prop} {g g' : zPg} {rm pl r t u p : Int} {k s : Nat} {some : Int}
/-- the bit of a room among those told; 0: it is not told -/
def rAb (some r : Int) : Nat := if zb some r.toNat = true then 2 ^ (zpc r.toNat some).toNat else 0
theorem zpc_s (x : Int) (n : Nat) : zpc (n + 1) x = zpc n x + (if zb x n = true then 1 else 0) := rfl
theorem zpc_mono (x : Int) {m : Nat} : ∀ n, m ≤ n → zpc m x ≤ zpc n x
  | 0, h => by rw [show m = 0 by omega]; exact Int.le_refl _
  | n + 1, h => by
    by_cases e : m = n + 1
    · rw [e]; exact Int.le_refl _
    · have := zpc_mono x n (m := m) (by omega)
      rw [zpc_s]
      split <;> omega
theorem rank_lt {n : Nat} (hc : zpc 14 some ≤ 5) (hn : n < 14) (hb : zb some n = true) : zpc n some < 5 := by
  have h1 := zpc_mono some (m := n + 1) 14 (by omega)
  rw [zpc_s, if_pos hb] at h1
  omega
theorem two_pow_lt {n : Nat} (h : n < 5) : 2 ^ n < 32 := by
  have : n = 0 ∨ n = 1 ∨ n = 2 ∨ n = 3 ∨ n = 4 := by omega
  rcases this with rfl | rfl | rfl | rfl | rfl <;> decide
theorem rAb_lt (hc : zpc 14 some ≤ 5) (hr : 0 ≤ r ∧ r < 10) : rAb some r < 32 := by
  unfold rAb
  split
  · rename_i q
    have h1 := rank_lt hc (n := r.toNat) (by omega) q
    have h2 := zpc_ge some r.toNat
    exact two_pow_lt (by omega)
  · omega
theorem l_Mo_askedBit (hz : zI some) (hr : 0 ≤ r ∧ r < 10) (hQ : Q (rAb some r : Int) mem) : ∀ (n i : Nat), i + n = r.toNat → zG (d + 1) M_Mo_askedBit 4 [(0, r), (0, some), (0, ((2 ^ (zpc i some).toNat : Nat) : Int)), (0, (i : Int))] [] mem Q := by
  intro n
  induction n with
  | zero =>
    intro i hi
    refine v_Mo_askedBit_4 ⟨fun c => ?_, fun c => by omega⟩
    rw [show i = r.toNat by omega]
    unfold rAb at hQ
    refine ⟨fun q => ?_, fun q => ?_⟩
    · rw [Ne, zB_test1 hz hr.1 (by omega)] at q
      rw [if_neg (show ¬ zb some r.toNat = true from q)] at hQ
      exact hQ
    · rw [zB_test1 hz hr.1 (by omega)] at q
      rw [if_pos (show zb some r.toNat = true from q)] at hQ
      exact hQ
  | succ n ih =>
    intro i hi
    have hb := zpc_ge some i
    refine v_Mo_askedBit_4 ⟨fun c => by omega, fun c => ⟨fun q x2 e2 => ?_, fun q x3 e3 x4 e4 => ?_⟩⟩
    · rw [Ne, zB_test1 hz (by omega) (by omega), Int.toNat_natCast] at q
      rw [za (by omega)] at e2
      have := ih (i + 1) (by omega)
      rw [zpc_s, if_neg (show ¬ zb some i = true from q), Int.add_zero] at this
      rw [e2]
      exact this
    · rw [zB_test1 hz (by omega) (by omega), Int.toNat_natCast] at q
      rw [za (by omega)] at e4
      have := ih (i + 1) (by omega)
      rw [zpc_s, if_pos (show zb some i = true from q), show (zpc i some + 1).toNat = (zpc i some).toNat + 1 by omega, Nat.pow_succ] at this
      have hlt : 2 ^ (zpc i some).toNat ≤ 2 ^ 10 := Nat.pow_le_pow_right (by decide) (by omega)
      have hlt2 : (2 : Nat) ^ 10 = 1024 := by decide
      rw [hlt2] at hlt
      generalize 2 ^ (zpc i some).toNat = P at hlt this e3
      rw [zm (by omega)] at e3
      rw [e3, e4, show 2 * (P : Int) = ((P * 2 : Nat) : Int) by omega]
      exact this
theorem c_Mo_askedBit (hz : zI some) (hr : 0 ≤ r ∧ r < 10) (hQ : Q (rAb some r : Int) mem) : zC (d + 1) K_Mo_askedBit [(0, r), (0, some)] mem Q :=
  v_Mo_askedBit (l_Mo_askedBit hz hr hQ r.toNat 0 (by omega))
theorem lor_lt {i b : Nat} (hi : i < 32) (hb : b < 32) : i ||| b < 32 := Nat.or_lt_two_pow (n := 5) hi hb
theorem c_Mo_withRoom {sets : Int} (hz : zI sets) {b : Nat} (hb : b < 32) (hQ : ∀ v, zI v → (∀ j : Nat, j < 32 → (zB v j ↔ ∃ s, s < 32 ∧ zB sets s ∧ s ||| b = j)) → Q v mem) : zC (d + 1) K_Mo_withRoom [(0, sets), (0, (b : Int))] mem Q := by
  have loop : ∀ (n i : Nat) (v : Int), i + n = 32 → zI v → (∀ j : Nat, j < 32 → (zB v j ↔ ∃ s, s < i ∧ zB sets s ∧ s ||| b = j)) → zG (d + 1) M_Mo_withRoom 4 [(0, sets), (0, (b : Int)), (0, v), (0, (i : Int))] [] mem Q := by
    intro n
    induction n with
    | zero =>
      intro i v hi hv hvb
      refine v_Mo_withRoom_4 ⟨fun c => hQ v hv (fun j hj => ?_), fun c => by omega⟩
      rw [hvb j hj, show i = 32 by omega]
    | succ n ih =>
      intro i v hi hv hvb
      refine v_Mo_withRoom_4 ⟨fun c => by omega, fun c => ⟨fun q x1 e1 x2 e2 => ?_, fun q x3 e3 x4 e4 => ?_⟩⟩
      · rw [Ne, zB_test1 hz (by omega) (by omega), Int.toNat_natCast] at q
        rw [za (by omega)] at e2
        rw [e1, e2]
        refine ih (i + 1) _ (by omega) (zor_I _ _) (fun j hj => ?_)
        rw [zB_or0, hvb j hj]
        constructor
        · rintro ⟨s, s1, s2⟩; exact ⟨s, by omega, s2⟩
        · rintro ⟨s, s1, s2, s3⟩
          by_cases e : s = i
          · rw [e] at s2; exact absurd s2 q
          · exact ⟨s, by omega, s2, s3⟩
      · rw [zB_test1 hz (by omega) (by omega), Int.toNat_natCast] at q
        rw [za (by omega)] at e4
        have hl := lor_lt (i := i) (b := b) (by omega) hb
        rw [zor_nat (by omega) (by omega)] at e3
        rw [e3, e4]
        refine ih (i + 1) _ (by omega) (zor_I _ _) (fun j hj => ?_)
        rw [(zB_put hj (by omega) (by omega)).1, hvb j hj]
        constructor
        · rintro (⟨s, s1, s2⟩ | z)
          · exact ⟨s, by omega, s2⟩
          · exact ⟨i, by omega, q, by omega⟩
        · rintro ⟨s, s1, s2, s3⟩
          by_cases e : s = i
          · right; rw [e] at s3; omega
          · exact Or.inl ⟨s, by omega, s2, s3⟩
  exact v_Mo_withRoom (loop 32 0 0 (by omega) zI_0 (fun j _ => ⟨fun q => absurd q (zB_0 j), fun ⟨s, q, _⟩ => by omega⟩))
theorem zHV_b : ∀ n, n < 5 → ∀ j, j < 32 → zb (zHV.getD n 0) j = Nat.testBit j n := by decide +kernel
theorem zshl_5 : ∀ n, n < 5 → zshl 1 (Int.ofNat n) = ((2 ^ n : Nat) : Int) := by decide +kernel
theorem lor_f : ∀ n, n < 5 → ∀ j, j < 32 → (Nat.testBit j n = true → j ||| 2 ^ n = j) ∧ (Nat.testBit j n = false → j ||| 2 ^ n = j + 2 ^ n ∧ j + 2 ^ n < 32) := by decide +kernel
theorem c_Ro_withRoom {sets : Int} (hc : zpc 14 some ≤ 5) (hr : 0 ≤ r ∧ r < 10) (h78 : mem 78 r.toNat = if zb some r.toNat = true then zpc r.toNat some else -4) (hQ : ∀ v, zI v → (∀ j : Nat, j < 32 → (zB v j ↔ ∃ s, s < 32 ∧ zB sets s ∧ s ||| rAb some r = j)) → Q v mem) (hz : zI sets) : zC (d + 1) K_Ro_withRoom [(2, Int.ofNat 77), (0, sets), (0, r)] mem Q := by
  have hpc := zpc_ge some r.toNat
  refine v_Ro_withRoom ⟨hr, fun x1 e1 => ?_⟩
  rw [h78] at e1
  by_cases q : zb some r.toNat = true
  · rw [if_pos q] at e1
    have hrk := rank_lt hc (n := r.toNat) (by omega) q
    have hab : rAb some r = 2 ^ x1.toNat := by unfold rAb; rw [if_pos q, e1]
    refine ⟨fun _ => ⟨by omega, fun x2 e2 => hQ _ (zor_I _ _) (fun j hj => ?_)⟩, fun z => by omega⟩
    have hx : x1.toNat < 5 := by omega
    have e3 : zshl 1 x1 = ((2 ^ x1.toNat : Nat) : Int) := by
      have := zshl_5 x1.toNat hx
      rw [show Int.ofNat x1.toNat = x1 by simp; omega] at this
      exact this
    have hlt := two_pow_lt hx
    have hb : ∀ i, i < 32 → (zB x2 i ↔ Nat.testBit i x1.toNat = true) := fun i hi => by
      unfold zB
      rw [e2, zHV_b _ hx i hi]
    rw [e3, zB_or, zB_and, zB_shlN hlt hj, hab, hb j hj]
    constructor
    · rintro (⟨z1, z2⟩ | ⟨z1, z2⟩)
      · exact ⟨j, hj, z1, (lor_f _ hx j hj).1 z2⟩
      · rw [zB_and, zB_not _ (by omega), hb _ (by omega)] at z2
        have h1 := (lor_f _ hx (j - 2 ^ x1.toNat) (by omega)).2 (by simpa using z2.2)
        exact ⟨j - 2 ^ x1.toNat, by omega, z2.1, by omega⟩
    · rintro ⟨s, s1, s2, s3⟩
      by_cases z : Nat.testBit s x1.toNat = true
      · left
        have h1 := (lor_f _ hx s s1).1 z
        rw [h1] at s3
        rw [← s3]
        exact ⟨s2, z⟩
      · right
        have h1 := (lor_f _ hx s s1).2 (by simpa using z)
        have hsj : j = s + 2 ^ x1.toNat := by omega
        refine ⟨by omega, ?_⟩
        rw [zB_and, zB_not _ (by omega), hsj, Nat.add_sub_cancel, hb s s1]
        exact ⟨s2, z⟩
  · rw [if_neg q] at e1
    have hab : rAb some r = 0 := by unfold rAb; rw [if_neg q]
    refine ⟨fun z => by omega, fun _ => hQ _ hz (fun j hj => ?_)⟩
    rw [hab]
    constructor
    · intro z; exact ⟨j, hj, z, by simp⟩
    · rintro ⟨s, s1, s2, s3⟩
      have : s = j := by simpa using s3
      rw [← this]
      exact s2
theorem c_Ro_begin {home : Int} (hz : zI some) (hc : zpc 14 some ≤ 5) (hhi : ∀ j, 10 ≤ j → ¬ zB some j) (hQ : ∀ m' : zMem, m' 77 5 = home → m' 77 6 = ((2 ^ (zpc 14 some).toNat : Nat) : Int) - 1 → (∀ r, r < 10 → m' 78 r = if zb some r = true then zpc r some else -4) → (∀ x, x < 421 → m' 79 x = 0 ∧ m' 81 x = 0 ∧ m' 82 x = 0) → m' 86 0 = 0 → m' 86 1 = 0 → (∀ c, c < 77 ∨ 86 < c → m' c = mem c) → Q 0 m') : zC (d + 2) K_Ro_begin [(2, Int.ofNat 77), (0, home), (0, some)] mem Q := by
  have loop : ∀ (n i : Nat) (m : zMem), i + n = 10 → m 77 5 = home → (∀ r, r < i → m 78 r = if zb some r = true then zpc r some else -4) → (∀ c, c < 77 ∨ 86 < c → m c = mem c) → zG (d + 2) M_Ro_begin 10 [(2, Int.ofNat 77), (9, 0), (0, some), (0, zpc i some), (0, (i : Int)), (9, 0)] [] m Q := by
    intro n
    induction n with
    | zero =>
      intro i m hi h5 h78 hf
      have e10 : zpc i some = zpc 14 some := by
        rw [show i = 10 by omega, zpc_ct, zpc_ct]
        exact (zct_up (m := 10) 14 (by omega) (fun k k1 k2 => hhi k k1)).symm
      have hpc := zpc_ge some 14
      refine v_Ro_begin_10 ⟨fun c m1 e1 => ?_, fun c => by omega⟩
      rw [e10] at e1
      have h2 : zsub (zshl 1 (zpc 14 some)) 1 = ((2 ^ (zpc 14 some).toNat : Nat) : Int) - 1 := by
        have key : ∀ n, n < 6 → zsub (zshl 1 (Int.ofNat n)) 1 = ((2 ^ n : Nat) : Int) - 1 := by decide +kernel
        have := key (zpc 14 some).toNat (by omega)
        rw [show Int.ofNat (zpc 14 some).toNat = zpc 14 some by simp; omega] at this
        exact this
      rw [h2] at e1
      refine c_Jd_fill (d := d) (b := 79) (by decide) (c_Jd_fill (d := d) (b := 81) (by decide) (c_Jd_fill (d := d) (b := 82) (by decide) (fun m5 e5 m6 e6 => ?_)))
      rw [show zln 79 = 421 by decide, show zln 81 = 421 by decide, show zln 82 = 421 by decide] at e5
      refine hQ m6 ?_ ?_ (fun r hr => ?_) (fun x hx => ⟨?_, ?_, ?_⟩) ?_ ?_ (fun c hc => ?_)
      · rw [e6, zup_k (by omega), e5, zup_k (by omega), zfl_k (by omega), zfl_k (by omega), zfl_k (by omega), e1, zup_j (by omega), h5]
      · rw [e6, zup_k (by omega), e5, zup_k (by omega), zfl_k (by omega), zfl_k (by omega), zfl_k (by omega), e1, zup_e]
      · rw [e6, zup_k (by omega), e5, zup_k (by omega), zfl_k (by omega), zfl_k (by omega), zfl_k (by omega), e1, zup_k (by omega)]
        exact h78 r (by omega)
      · rw [e6, zup_k (by omega), e5, zup_k (by omega), zfl_k (by omega), zfl_k (by omega), zfl_e hx]
      · rw [e6, zup_k (by omega), e5, zup_k (by omega), zfl_k (by omega), zfl_e hx]
      · rw [e6, zup_k (by omega), e5, zup_k (by omega), zfl_e hx]
      · rw [e6, zup_j (by omega), e5, zup_e]
      · rw [e6, zup_e]
      · funext j
        rw [e6, zup_k (by omega), e5, zup_k (by omega), zfl_k (by omega), zfl_k (by omega), zfl_k (by omega), e1, zup_k (by omega), hf c hc]
    | succ n ih =>
      intro i m hi h5 h78 hf
      have hpc := zpc_ge some i
      have nx : ∀ (x : Int) (s0 : Int) (m7 : zMem), m7 = zup m 78 i x → x = (if zb some i = true then zpc i some else -4) → s0 = (if zb some i = true then 1 else 0) → zG (d + 2) M_Ro_begin 67 [(2, Int.ofNat 77), (9, 0), (0, some), (9, 0), (0, (i : Int)), (9, 0)] [(0, s0), (0, zpc i some)] m7 Q := by
        intro x s0 m7 f7 hx hs
        refine v_Ro_begin_67 fun x1 e1 x2 e2 => ?_
        have hs01 : s0 = 0 ∨ s0 = 1 := by rw [hs]; split <;> omega
        rw [za (by omega)] at e1 e2
        have := ih (i + 1) m7 (by omega) (by rw [f7, zup_k (by omega), h5]) (fun r hr => ?_) (fun c hc => by funext j; rw [f7, zup_k (by omega), hf c hc])
        · rw [zpc_s, ← hs] at this
          rw [e1, e2]
          exact this
        · rw [f7, zup_at]
          by_cases e : r = i
          · rw [if_pos ⟨rfl, e⟩, hx, e]
          · rw [if_neg (fun q => e q.2)]
            exact h78 r (by omega)
      refine v_Ro_begin_10 ⟨fun c => by omega, fun c => ?_⟩
      rw [Int.toNat_natCast]
      refine ⟨fun q => ⟨by omega, fun m7 f7 => nx _ _ m7 f7 ?_ ?_⟩, fun q => ⟨fun z => ?_, fun z => ⟨by omega, fun m7 f7 => nx _ _ m7 f7 ?_ ?_⟩⟩⟩
      · rw [zB_test hz (by omega) (by omega), Int.toNat_natCast] at q
        rw [if_neg (show ¬ zb some i = true from q)]
      · rw [zB_test hz (by omega) (by omega), Int.toNat_natCast] at q
        rw [if_neg (show ¬ zb some i = true from q)]
      · rw [zB_ne hz (by omega) (by omega), Int.toNat_natCast] at q
        have := rank_lt hc (n := i) (by omega) q
        omega
      · rw [zB_ne hz (by omega) (by omega), Int.toNat_natCast] at q
        rw [if_pos (show zb some i = true from q)]
      · rw [zB_ne hz (by omega) (by omega), Int.toNat_natCast] at q
        rw [if_pos (show zb some i = true from q)]
  exact v_Ro_begin fun m1 e1 => loop 10 0 m1 (by omega) (by rw [e1, zup_e]) (fun r hr => by omega) (fun c hc => by funext j; rw [e1, zup_k (by omega)])
end
