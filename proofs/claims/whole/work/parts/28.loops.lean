section
variable {d h : Nat} {mem : zMem} {g : zPg} {rm : Int} {Q : Int → zMem → Prop}
/-- a room for life, and the like: what the loops of House look for -/
def gFL (g : zPg) (r : Int) : Prop := ∃ k : Nat, gO g r k ∧ ∀ j, j < 32 → ¬ gMay g r k (-1) j
def gLB (g : zPg) (r : Int) (k : Nat) : Prop := ∃ e : Nat, gO g (if gA g k = r then gB g k else gA g k) e ∧ e ≠ k ∧ ∀ j, j < 32 → ¬ gMay g r k e j
def gLS (g : zPg) (r : Int) : Prop := ∃ k : Nat, gO g r k ∧ gLB g r k
theorem l_Ho_isForLife (hh : zHo h) (hH : Hs mem h g rm) (hD : gDo g) (hrg : zrg mem) {r : Int} (hr : 0 ≤ r ∧ r < 10) (hQ1 : gFL g r → Q 1 mem) (hQ0 : ¬ gFL g r → Q 0 mem) : ∀ (n : Nat) (i : Int), 0 ≤ i → i ≤ gN g → gN g - i ≤ n → (∀ k : Nat, (k : Int) < i → ¬ (gO g r k ∧ ∀ j, j < 32 → ¬ gMay g r k (-1) j)) → zG (d + 2) M_Ho_isForLife 2 [(2, Int.ofNat h), (0, r), (0, i)] [] mem Q := by
  intro n
  induction n with
  | zero =>
    intro i h0 h1 h2 h3
    refine v_Ho_isForLife_2 hh ⟨fun c => hQ0 ?_, fun c => by have := hH.2.2.1; omega⟩
    rintro ⟨k, hk⟩
    exact h3 k (by have := hk.1.1; omega) hk
  | succ n ih =>
    intro i h0 h1 h2 h3
    have hn := hH.2.2.1
    have hN := hD.1
    refine v_Ho_isForLife_2 hh ⟨fun c => hQ0 ?_, fun c => ⟨hr, fun c2 x1 e1 => ?_, fun c2 => ?_⟩⟩
    · rintro ⟨k, hk⟩
      exact h3 k (by have := hk.1.1; omega) hk
    · rw [zadd_n (by unfold zI; omega)] at e1
      rw [e1]
      refine ih (i + 1) (by omega) (by omega) (by omega) (fun k hk => ?_)
      by_cases hki : (k : Int) < i
      · exact h3 k hki
      · rw [zB_test (zrg_i hrg (zHo_kd hh).2.2.2.2.1 _) h0 (by omega), hH.2.2.2.2.2.1 r.toNat (by omega) _ (by omega), Int.toNat_of_nonneg hr.1, show i.toNat = k by omega] at c2
        exact fun q => c2 q.1
    · refine c_Ho_choices (d := d) hh hH hD hr (Or.inr ⟨h0, by omega⟩) (Or.inl rfl) (fun v hv hb => ⟨fun c3 x3 e3 => ?_, fun c3 => hQ1 ?_⟩)
      · rw [zadd_n (by unfold zI; omega)] at e3
        rw [e3]
        refine ih (i + 1) (by omega) (by omega) (by omega) (fun k hk => ?_)
        by_cases hki : (k : Int) < i
        · exact h3 k hki
        · rintro ⟨-, q⟩
          apply c3
          rw [zB_z hv]
          intro j hj
          rw [hb j hj, show i = (k : Int) by omega]
          exact q j hj
      · refine ⟨i.toNat, ?_, fun j hj => ?_⟩
        · rw [zB_ne (zrg_i hrg (zHo_kd hh).2.2.2.2.1 _) h0 (by omega), hH.2.2.2.2.2.1 r.toNat (by omega) _ (by omega), Int.toNat_of_nonneg hr.1] at c2
          exact c2
        · rw [zB_z hv] at c3
          have := c3 j hj
          rw [hb j hj] at this
          rw [Int.toNat_of_nonneg h0]
          exact this
theorem c_Ho_isForLife (hh : zHo h) (hH : Hs mem h g rm) (hD : gDo g) {r : Int} (hr : 0 ≤ r ∧ r < 10) (hQ1 : gFL g r → Q 1 mem) (hQ0 : ¬ gFL g r → Q 0 mem) : zC (d + 2) K_Ho_isForLife [(2, Int.ofNat h), (0, r)] mem Q := by
  refine zC.rg fun _ hrg => ?_
  refine v_Ho_isForLife hh (l_Ho_isForLife hh hH hD hrg hr hQ1 hQ0 (gN g).toNat 0 (by omega) (by have := hD.1; omega) (by omega) (fun k hk => by omega))
theorem l_Ho_losesBehind (hh : zHo h) (hH : Hs mem h g rm) (hD : gDo g) {r k o : Int} (hr : 0 ≤ r ∧ r < 10) (hk : 0 ≤ k ∧ k < gN g) (ho : zI o) (hob : ∀ j, j < 32 → (zB o j ↔ gO g (if gA g k.toNat = r then gB g k.toNat else gA g k.toNat) j ∧ (j : Int) ≠ k)) (hQ1 : gLB g r k.toNat → Q 1 mem) (hQ0 : ¬ gLB g r k.toNat → Q 0 mem) : ∀ (n : Nat) (i : Int), 0 ≤ i → i ≤ gN g → gN g - i ≤ n → (∀ e : Nat, (e : Int) < i → ¬ (gO g (if gA g k.toNat = r then gB g k.toNat else gA g k.toNat) e ∧ e ≠ k.toNat ∧ ∀ j, j < 32 → ¬ gMay g r (k.toNat : Nat) e j)) → zG (d + 2) M_Ho_losesBehind 21 [(2, Int.ofNat h), (0, r), (0, k), (0, o), (0, i)] [] mem Q := by
  intro n
  induction n with
  | zero =>
    intro i h0 h1 h2 h3
    refine v_Ho_losesBehind_21 hh ⟨fun c => hQ0 ?_, fun c => by have := hH.2.2.1; omega⟩
    rintro ⟨e, he⟩
    exact h3 e (by have := he.1.1; omega) he
  | succ n ih =>
    intro i h0 h1 h2 h3
    have hn := hH.2.2.1
    have hN := hD.1
    refine v_Ho_losesBehind_21 hh ⟨fun c => hQ0 ?_, fun c => ⟨fun c2 x1 e1 => ?_, fun c2 => ?_⟩⟩
    · rintro ⟨e, he⟩
      exact h3 e (by have := he.1.1; omega) he
    · rw [zadd_n (by unfold zI; omega)] at e1
      rw [e1]
      refine ih (i + 1) (by omega) (by omega) (by omega) (fun e he => ?_)
      by_cases hei : (e : Int) < i
      · exact h3 e hei
      · rw [zB_test ho h0 (by omega), hob _ (by omega), show i.toNat = e by omega] at c2
        exact fun q => c2 ⟨q.1, by have := q.2.1; omega⟩
    · rw [zB_ne ho h0 (by omega), hob _ (by omega)] at c2
      refine c_Ho_choices (d := d) hh hH hD hr (Or.inr hk) (Or.inr ⟨h0, by omega⟩) (fun v hv hb => ⟨fun c3 x3 e3 => ?_, fun c3 => hQ1 ?_⟩)
      · rw [zadd_n (by unfold zI; omega)] at e3
        rw [e3]
        refine ih (i + 1) (by omega) (by omega) (by omega) (fun e he => ?_)
        by_cases hei : (e : Int) < i
        · exact h3 e hei
        · rintro ⟨-, -, q⟩
          apply c3
          rw [zB_z hv]
          intro j hj
          rw [hb j hj, show i = (e : Int) by omega]
          have := q j hj
          rw [Int.toNat_of_nonneg hk.1] at this
          exact this
      · refine ⟨i.toNat, c2.1, by have := c2.2; omega, fun j hj => ?_⟩
        rw [zB_z hv] at c3
        have := c3 j hj
        rw [hb j hj] at this
        rw [Int.toNat_of_nonneg h0, Int.toNat_of_nonneg hk.1]
        exact this
theorem c_Ho_losesBehind (hh : zHo h) (hH : Hs mem h g rm) (hD : gDo g) {r k : Int} (hr : 0 ≤ r ∧ r < 10) (hk : 0 ≤ k ∧ k < gN g) (hQ1 : gLB g r k.toNat → Q 1 mem) (hQ0 : ¬ gLB g r k.toNat → Q 0 mem) : zC (d + 2) K_Ho_losesBehind [(2, Int.ofNat h), (0, r), (0, k)] mem Q := by
  have hN := hD.1
  obtain ⟨da, db, -⟩ := hD.2.2 k.toNat (by omega)
  refine v_Ho_losesBehind hh (c_Ho_beyond (d := d) hh hH (by omega) hk ⟨by split <;> omega, fun x2 e2 => ?_⟩)
  refine l_Ho_losesBehind hh hH hD hr hk (e2 ▸ zand_I _ _) (fun j hj => ?_) hQ1 hQ0 (gN g).toNat 0 (by omega) (by omega) (by omega) (fun e he => by omega)
  rw [e2, (zB_put hj hk.1 (by omega)).2, hH.2.2.2.2.2.1 _ (by split <;> omega) j hj, Int.toNat_of_nonneg (by split <;> omega)]
end
