section
variable {d h : Nat} {mem : zMem} {g : zPg} {rm : Int} {Q : Int → zMem → Prop}
theorem l_Ho_losesBySecond (hh : zHo h) (hH : Hs mem h g rm) (hD : gDo g) (hrg : zrg mem) {r : Int} (hr : 0 ≤ r ∧ r < 10) (hQ1 : gLS g r → Q 1 mem) (hQ0 : ¬ gLS g r → Q 0 mem) : ∀ (n : Nat) (i : Int), 0 ≤ i → i ≤ gN g → gN g - i ≤ n → (∀ k : Nat, (k : Int) < i → ¬ (gO g r k ∧ gLB g r k)) → zG (d + 3) M_Ho_losesBySecond 2 [(2, Int.ofNat h), (0, r), (0, i)] [] mem Q := by
  intro n
  induction n with
  | zero =>
    intro i h0 h1 h2 h3
    refine v_Ho_losesBySecond_2 hh ⟨fun c => hQ0 ?_, fun c => by have := hH.2.2.1; omega⟩
    rintro ⟨k, hk⟩
    exact h3 k (by have := hk.1.1; omega) hk
  | succ n ih =>
    intro i h0 h1 h2 h3
    have hn := hH.2.2.1
    have hN := hD.1
    refine v_Ho_losesBySecond_2 hh ⟨fun c => hQ0 ?_, fun c => ⟨hr, fun c2 x1 e1 => ?_, fun c2 => ?_⟩⟩
    · rintro ⟨k, hk⟩
      exact h3 k (by have := hk.1.1; omega) hk
    · rw [zadd_n (by unfold zI; omega)] at e1
      rw [e1]
      refine ih (i + 1) (by omega) (by omega) (by omega) (fun k hk => ?_)
      by_cases hki : (k : Int) < i
      · exact h3 k hki
      · rw [zB_test (zrg_i hrg (zHo_kd hh).2.2.2.2.1 _) h0 (by omega), hH.2.2.2.2.2.1 r.toNat (by omega) _ (by omega), Int.toNat_of_nonneg hr.1, show i.toNat = k by omega] at c2
        exact fun q => c2 q.1
    · rw [zB_ne (zrg_i hrg (zHo_kd hh).2.2.2.2.1 _) h0 (by omega), hH.2.2.2.2.2.1 r.toNat (by omega) _ (by omega), Int.toNat_of_nonneg hr.1] at c2
      refine c_Ho_losesBehind (d := d) hh hH hD hr ⟨h0, by omega⟩ (fun hb => ⟨fun q => absurd q (by decide), fun _ => hQ1 ⟨i.toNat, c2, hb⟩⟩) (fun hb => ⟨fun _ x3 e3 => ?_, fun q => absurd rfl q⟩)
      rw [zadd_n (by unfold zI; omega)] at e3
      rw [e3]
      refine ih (i + 1) (by omega) (by omega) (by omega) (fun k hk => ?_)
      by_cases hki : (k : Int) < i
      · exact h3 k hki
      · rintro ⟨-, q⟩
        apply hb
        rw [show i.toNat = k by omega]
        exact q
theorem c_Ho_losesBySecond (hh : zHo h) (hH : Hs mem h g rm) (hD : gDo g) {r : Int} (hr : 0 ≤ r ∧ r < 10) (hQ1 : gLS g r → Q 1 mem) (hQ0 : ¬ gLS g r → Q 0 mem) : zC (d + 3) K_Ho_losesBySecond [(2, Int.ofNat h), (0, r)] mem Q := by
  refine zC.rg fun _ hrg => ?_
  refine v_Ho_losesBySecond hh (l_Ho_losesBySecond hh hH hD hrg hr hQ1 hQ0 (gN g).toNat 0 (by omega) (by have := hD.1; omega) (by omega) (fun k hk => by omega))
/-- a room that one may lose -/
def gLo (g : zPg) (r : Int) : Prop := gFL g r ∨ (gL g = 1 ∧ gLS g r)
theorem zB_step {l1 l2 : Int} {P : Int → Prop} (h0 : 0 ≤ l2) (h : l2 < 32) (hb : ∀ j : Nat, j < 32 → (zB l1 j ↔ (j : Int) < l2 ∧ P j)) (hp : P l2) : ∀ j : Nat, j < 32 → (zB (zor l1 (zshl 1 l2)) j ↔ (j : Int) < l2 + 1 ∧ P j) := by
  intro j hj
  rw [zB_or, zB_shl h0 h, hb j hj]
  constructor
  · rintro (q | q)
    · exact ⟨by omega, q.2⟩
    · exact ⟨by omega, by rw [q]; exact hp⟩
  · rintro ⟨q1, q2⟩
    by_cases e : (j : Int) = l2
    · exact Or.inr e
    · exact Or.inl ⟨by omega, q2⟩
theorem zB_skip {l1 l2 : Int} {P : Int → Prop} (hb : ∀ j : Nat, j < 32 → (zB l1 j ↔ (j : Int) < l2 ∧ P j)) (hp : ¬ P l2) : ∀ j : Nat, j < 32 → (zB l1 j ↔ (j : Int) < l2 + 1 ∧ P j) := by
  intro j hj
  rw [hb j hj]
  constructor
  · rintro ⟨q1, q2⟩
    exact ⟨by omega, q2⟩
  · rintro ⟨q1, q2⟩
    by_cases e : (j : Int) = l2
    · rw [e] at q2; exact absurd q2 hp
    · exact ⟨by omega, q2⟩
theorem l_Ho_losing (hh : zHo h) (hH : Hs mem h g rm) (hD : gDo g) (hrm : rm ≤ 10) (hQ : ∀ v, zI v → (∀ j : Nat, j < 32 → (zB v j ↔ (j : Int) < rm ∧ gLo g j)) → Q v mem) : ∀ (n : Nat) (l1 i : Int), 0 ≤ i → i ≤ rm → rm - i ≤ n → zI l1 → (∀ j : Nat, j < 32 → (zB l1 j ↔ (j : Int) < i ∧ gLo g j)) → zG (d + 4) M_Ho_losing 4 [(2, Int.ofNat h), (0, l1), (0, i)] [] mem Q := by
  intro n
  have hr0 := hH.1
  induction n with
  | zero =>
    intro l1 i h0 h1 h2 h3 h4
    refine v_Ho_losing_4 hh ⟨fun c => hQ l1 h3 (by rw [show rm = i by omega]; exact h4), fun c => by omega⟩
  | succ n ih =>
    intro l1 i h0 h1 h2 h3 h4
    refine v_Ho_losing_4 hh ⟨fun c => hQ l1 h3 (by rw [show rm = i by omega]; exact h4), fun c => ?_⟩
    have hi : zadd i 1 = i + 1 := zadd_n (by unfold zI; omega)
    refine c_Ho_isForLife (d := d + 1) hh hH hD ⟨h0, by omega⟩ (fun hf => ⟨fun _ x2 e2 x3 e3 => ?_, fun q => absurd q (by decide)⟩) (fun hf => ⟨fun q => absurd rfl q, fun _ => ⟨fun c1 x4 e4 => ?_, fun c1 => ?_⟩⟩)
    · rw [e2, e3, hi]
      exact ih _ _ (by omega) (by omega) (by omega) (zor_I _ _) (zB_step h0 (by omega) h4 (Or.inl hf))
    · rw [e4, hi]
      refine ih _ _ (by omega) (by omega) (by omega) h3 (zB_skip h4 ?_)
      rintro (q | ⟨q, -⟩)
      · exact hf q
      · rw [hH.2.1] at c1; exact c1 q
    · rw [hH.2.1] at c1
      refine c_Ho_losesBySecond (d := d) hh hH hD ⟨h0, by omega⟩ (fun hs => ⟨fun q => absurd q (by decide), fun _ x7 e7 x8 e8 => ?_⟩) (fun hs => ⟨fun _ x6 e6 => ?_, fun q => absurd rfl q⟩)
      · rw [e7, e8, hi]
        exact ih _ _ (by omega) (by omega) (by omega) (zor_I _ _) (zB_step h0 (by omega) h4 (Or.inr ⟨c1, hs⟩))
      · rw [e6, hi]
        refine ih _ _ (by omega) (by omega) (by omega) h3 (zB_skip h4 ?_)
        rintro (q | ⟨-, q⟩)
        · exact hf q
        · exact hs q
theorem c_Ho_losing (hh : zHo h) (hH : Hs mem h g rm) (hD : gDo g) (h0 : 0 ≤ rm) (hrm : rm ≤ 10) (hQ : ∀ v, zI v → (∀ j : Nat, j < 32 → (zB v j ↔ (j : Int) < rm ∧ gLo g j)) → Q v mem) : zC (d + 4) K_Ho_losing [(2, Int.ofNat h)] mem Q :=
  v_Ho_losing hh (l_Ho_losing hh hH hD hrm hQ rm.toNat 0 0 (by omega) h0 (by omega) zI_0 (fun j _ => ⟨fun q => absurd q (zB_0 j), fun q => by omega⟩))
theorem zHo_ln {h : Nat} (hh : zHo h) : zkd (h + 4) = 100 ∧ zkd (h + 5) = 100 ∧ zln (h + 4) = 10 ∧ zln (h + 5) = 4 := by
  rcases hh with rfl | rfl | rfl | rfl <;> decide +kernel
theorem c_Ho_clear (hh : zHo h) (hN : gN g = 0) (hL : gL g = 0) (hQ : ∀ m', Hs m' h g 4 → (∀ k, k < h ∨ h + 5 < k → m' k = mem k) → Q 0 m') : zC (d + 2) K_Ho_clear [(2, Int.ofNat h)] mem Q := by
  obtain ⟨k1, k2, k3, k4⟩ := zHo_ln hh
  refine v_Ho_clear hh fun m1 e1 m2 e2 m3 e3 m4 e4 => ?_
  refine c_Jd_fill (d := d) k1 (c_Jd_fill (d := d) k2 (hQ _ ?_ fun k hk => ?_))
  · rw [k3, k4]
    have b : ∀ j, zfl (zfl m4 (h + 4) 10 0) (h + 5) 4 0 h j = m4 h j := fun j => by rw [zfl_k (by omega), zfl_k (by omega)]
    refine ⟨?_, ?_, ?_, fun k hk => ?_, fun k hk => by omega, fun r hr k hk => ?_, fun c hc k hk => ?_⟩
    · rw [b, e4, zup_j (by omega), e3, zup_j (by omega), e2, zup_j (by omega), e1, zup_e]
    · rw [b, e4, zup_j (by omega), e3, zup_j (by omega), e2, zup_e, hL]
    · rw [b, e4, zup_j (by omega), e3, zup_e, hN]
    · rw [b, e4, zup_e]
      exact ⟨fun q => absurd q (zB_0 k), fun q => by omega⟩
    · rw [zfl_k (by omega), zfl_e hr]
      exact ⟨fun q => absurd q (zB_0 k), fun q => by have := q.1; omega⟩
    · rw [zfl_e hc]
      exact ⟨fun q => absurd q (zB_0 k), fun q => by omega⟩
  · rw [k3, k4]
    funext j
    rw [zfl_k (by omega), zfl_k (by omega), e4, zup_k (by omega), e3, zup_k (by omega), e2, zup_k (by omega), e1, zup_k (by omega)]
theorem zcp_k {m : zMem} {k t n a i : Nat} (h : a ≠ t) : zcp m k 0 t 0 n a i = m a i := by unfold zcp; rw [if_neg (fun q => h q.1)]
theorem zcp_e {m : zMem} {k t n i : Nat} (h : i < n) : zcp m k 0 t 0 n t i = m k i := by unfold zcp; rw [if_pos ⟨rfl, by omega, by omega⟩]; congr 1; omega
theorem c_Ho_take {q : Nat} (hhg : zHH h q) (hH : Hs mem q g rm) (hD : gDo g) (hQ : ∀ m', Hs m' h g rm → (∀ k, k < h ∨ h + 5 < k → m' k = mem k) → Q 0 m') : zC (d + 1) K_Ho_take [(2, Int.ofNat h), (2, Int.ofNat q)] mem Q := by
  have hq : q + 5 < h ∨ h + 5 < q := by rcases hhg with ⟨rfl, rfl⟩ | ⟨rfl, rfl⟩ | ⟨rfl, rfl⟩ | ⟨rfl, rfl⟩ | ⟨rfl, rfl⟩ <;> omega
  have hN := hD.1
  refine v_Ho_take hhg fun m1 e1 m2 e2 m3 e3 m4 e4 m5 e5 m6 e6 m7 e7 m8 e8 m9 e9 => ?_
  obtain ⟨h0, h1, h2, h3, h4, h5, h6⟩ := hH
  have u1 : ∀ a i, a ≠ h → m1 a i = mem a i := fun a i p => by rw [e1, zup_k p]
  have u2 : ∀ a i, a ≠ h → m2 a i = mem a i := fun a i p => by rw [e2, zup_k p, u1 a i p]
  have u3 : ∀ a i, a ≠ h → m3 a i = mem a i := fun a i p => by rw [e3, zup_k p, u2 a i p]
  have u4 : ∀ a i, a ≠ h → m4 a i = mem a i := fun a i p => by rw [e4, zup_k p, u3 a i p]
  have w5 : ∀ a i, a ≠ h + 1 → m5 a i = m4 a i := fun a i p => by rw [e5, zcp_k p]
  have w6 : ∀ a i, a ≠ h + 2 → m6 a i = m5 a i := fun a i p => by rw [e6, zcp_k p]
  have w7 : ∀ a i, a ≠ h + 3 → m7 a i = m6 a i := fun a i p => by rw [e7, zcp_k p]
  have w8 : ∀ a i, a ≠ h + 4 → m8 a i = m7 a i := fun a i p => by rw [e8, zcp_k p]
  have w9 : ∀ a i, a ≠ h + 5 → m9 a i = m8 a i := fun a i p => by rw [e9, zcp_k p]
  have f0 : ∀ i, m9 h i = m4 h i := fun i => by rw [w9 _ _ (by omega), w8 _ _ (by omega), w7 _ _ (by omega), w6 _ _ (by omega), w5 _ _ (by omega)]
  have f1 : ∀ i, i < 14 → m9 (h + 1) i = mem (q + 1) i := fun i hi => by rw [w9 _ _ (by omega), w8 _ _ (by omega), w7 _ _ (by omega), w6 _ _ (by omega), e5, zcp_e hi, u4 _ _ (by omega)]
  have f2 : ∀ i, i < 14 → m9 (h + 2) i = mem (q + 2) i := fun i hi => by rw [w9 _ _ (by omega), w8 _ _ (by omega), w7 _ _ (by omega), e6, zcp_e hi, w5 _ _ (by omega), u4 _ _ (by omega)]
  have f3 : ∀ i, i < 14 → m9 (h + 3) i = mem (q + 3) i := fun i hi => by rw [w9 _ _ (by omega), w8 _ _ (by omega), e7, zcp_e hi, w6 _ _ (by omega), w5 _ _ (by omega), u4 _ _ (by omega)]
  have f4 : ∀ i, i < 10 → m9 (h + 4) i = mem (q + 4) i := fun i hi => by rw [w9 _ _ (by omega), e8, zcp_e hi, w7 _ _ (by omega), w6 _ _ (by omega), w5 _ _ (by omega), u4 _ _ (by omega)]
  have f5 : ∀ i, i < 4 → m9 (h + 5) i = mem (q + 5) i := fun i hi => by rw [e9, zcp_e hi, w8 _ _ (by omega), w7 _ _ (by omega), w6 _ _ (by omega), w5 _ _ (by omega), u4 _ _ (by omega)]
  refine hQ m9 ⟨?_, ?_, ?_, fun k hk => ?_, fun k hk => ?_, fun r hr k hk => ?_, fun c hc k hk => ?_⟩ (fun k hk => ?_)
  · rw [f0, e4, zup_j (by omega), e3, zup_j (by omega), e2, zup_j (by omega), e1, zup_e, h0]
  · rw [f0, e4, zup_j (by omega), e3, zup_j (by omega), e2, zup_e, u1 _ _ (by omega), h1]
  · rw [f0, e4, zup_j (by omega), e3, zup_e, u2 _ _ (by omega), h2]
  · rw [f0, e4, zup_e, u3 _ _ (by omega)]
    exact h3 k hk
  · rw [f1 k (by omega), f2 k (by omega), f3 k (by omega)]
    exact h4 k hk
  · rw [f4 r hr]; exact h5 r hr k hk
  · rw [f5 c hc]; exact h6 c hc k hk
  · funext i
    rw [w9 _ _ (by omega), w8 _ _ (by omega), w7 _ _ (by omega), w6 _ _ (by omega), w5 _ _ (by omega), u4 _ _ (by omega)]
end
