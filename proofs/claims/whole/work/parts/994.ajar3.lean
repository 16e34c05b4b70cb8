section
/-! ajar: the reference's answers. -/
variable {d w : Nat} {mem m m' m2 : zMem} {Q : Int → zMem → Prop} {g : zPg} {S U : Nat → Bool} {pl : Int}
def one1 : Int → Int := fun _ => 1
theorem fRm_sum (hD : gDo g) {n : Nat} (hp : pOK g pl) : zsum (fun r => cn g S (fRm g r) n U pl) 10 = cn g S one1 n U pl := by
  rw [cn_sum]
  refine cn_cg (fun p hp => ?_) hD n U pl hp
  have hr := pR_rg hD hp
  have e : zsum (fun r => fRm g r p) 10 = zsum (fun r => if r = (pR g p).toNat then (fun _ => (0 : Int)) r + 1 else (fun _ => (0 : Int)) r) 10 := zsum_cg 10 (fun r _ => by
    show (if pR g p = r then (1 : Int) else 0) = if r = (pR g p).toNat then 0 + 1 else 0
    by_cases e : pR g p = r
    · rw [if_pos e, if_pos (by omega)]; rfl
    · rw [if_neg e, if_neg (by omega)])
  rw [e, zsum_up, if_pos (by omega), zsum_z 10 (fun q _ => rfl)]
  rfl
theorem fRm_b (r : Nat) (p : Int) : 0 ≤ fRm g r p ∧ fRm g r p ≤ 1 := by unfold fRm; split <;> omega
theorem zb_nat' {n : Nat} (h : n < 2147483648) : (fun k => zb (n : Int) k) = fun k => n.testBit k := by
  funext k
  exact zbn h k
theorem c_Mo_layWays {n u : Nat} {s : Int} (hn : n ≤ 6) (hD : gDo (mem 123)) (hp : pOK (mem 123) pl) (hs : zI s) (hu : u < 16384)
    (hQ : ∀ m' : zMem, (∀ r, r < 10 → m' 141 r = cn (mem 123) (fun k => zb s k) (fRm (mem 123) r) n (fun k => u.testBit k) pl) → aFr mem m' → Q (cn (mem 123) (fun k => zb s k) one1 n (fun k => u.testBit k) pl) m') : zC (d + 5) K_Mo_layWays [(2, Int.ofNat 122), (0, pl), (0, (n : Int)), (0, s), (0, (u : Int))] mem Q := by
  generalize hS : (fun k => zb s k) = S at hQ
  have h6 := pow6 hn
  have hcb : ∀ r : Nat, 0 ≤ cn (mem 123) S (fRm (mem 123) r) n (fun k => u.testBit k) pl ∧ cn (mem 123) S (fRm (mem 123) r) n (fun k => u.testBit k) pl ≤ 7529536 := fun r =>
    ⟨cn_ge (fun p => (fRm_b r p).1) _ _ _, Int.le_trans (cn_le (fun p => (fRm_b r p).2) hD.1.2 _ _ _) h6.2⟩
  -- the sum over the rooms
  have sum : ∀ (c i : Nat) (m : zMem), i + c = 10 → (∀ r, r < 10 → m 141 r = cn (mem 123) S (fRm (mem 123) r) n (fun k => u.testBit k) pl) → aFr mem m → zG (d + 5) M_Mo_layWays 102 [(2, Int.ofNat 122), (9, 0), (9, 0), (9, 0), (9, 0), (1, zsum (fun r => cn (mem 123) S (fRm (mem 123) r) n (fun k => u.testBit k) pl) i), (9, 0), (0, (i : Int))] [] m Q := by
    intro c
    induction c with
    | zero =>
      intro i m hi h1 hf
      refine v_Mo_layWays_102 ⟨fun _ => ?_, fun c => by omega⟩
      rw [show i = 10 by omega, fRm_sum hD hp]
      exact hQ m h1 hf
    | succ c ih =>
      intro i m hi h1 hf
      refine v_Mo_layWays_102 ⟨fun c => by omega, fun _ => ⟨by omega, fun x1 e1 x2 e2 => ?_⟩⟩
      rw [za (by omega)] at e2
      rw [Int.toNat_natCast, h1 i (by omega), zladd_w] at e1
      have hge := zsum_ge (f := fun r => cn (mem 123) S (fRm (mem 123) r) n (fun k => u.testBit k) pl) i (fun k _ => (hcb k).1)
      have hle := zsum_c (f := fun r => cn (mem 123) S (fRm (mem 123) r) n (fun k => u.testBit k) pl) (c := 7529536) i (fun k _ => (hcb k).2)
      have hci := hcb i
      rw [w64_id (by unfold zJ; omega)] at e1
      rw [e1, e2]
      exact ih (i + 1) m (by omega) h1 hf
  -- all that are left out
  let f : Nat → Nat → Int := fun t r => sg 14 t * cn (mem 123) (lsB S 0 t) (fRm (mem 123) r) n (loB u 0) pl
  have hlo : loB u 0 = f0B := by funext k; unfold loB f0B; simp
  have loop : ∀ (c x : Nat) (v : Nat → Int), LR u f c x v → x < 16384 → ∀ (A : Nat → Int) (m : zMem), (∀ r, r < 10 → m 141 r = w64 (A r)) → aFr mem m → (∀ m' : zMem, (∀ r, r < 10 → m' 141 r = w64 (A r + v r)) → aFr mem m' → zG (d + 5) M_Mo_layWays 102 [(2, Int.ofNat 122), (9, 0), (9, 0), (9, 0), (9, 0), (1, 0), (9, 0), (0, 0)] [] m' Q) → zG (d + 5) M_Mo_layWays 40 [(2, Int.ofNat 122), (0, pl), (0, (n : Int)), (0, s), (0, (u : Int)), (0, (x : Int)), (0, 1), (9, 0)] [] m Q := by
    intro c
    have one : ∀ (x : Nat) (A : Nat → Int) (m : zMem), x < 16384 → (∀ r, r < 10 → m 141 r = w64 (A r)) → aFr mem m → (∀ m' : zMem, (∀ r, r < 10 → m' 141 r = w64 (A r + f x r)) → aFr mem m' → ((x : Int) = 0 → zG (d + 5) M_Mo_layWays 40 [(2, Int.ofNat 122), (0, pl), (0, (n : Int)), (0, s), (0, (u : Int)), (0, zand (zsub x 1) u), (0, 0), (9, 0)] [] m' Q) ∧ ((x : Int) ≠ 0 → zG (d + 5) M_Mo_layWays 40 [(2, Int.ofNat 122), (0, pl), (0, (n : Int)), (0, s), (0, (u : Int)), (0, zand (zsub x 1) u), (0, 1), (9, 0)] [] m' Q)) → zG (d + 5) M_Mo_layWays 40 [(2, Int.ofNat 122), (0, pl), (0, (n : Int)), (0, s), (0, (u : Int)), (0, (x : Int)), (0, 1), (9, 0)] [] m Q := by
      intro x A m hx hA hf hnx
      have e3 : m 123 = mem 123 := hf 123 (by omega)
      refine v_Mo_layWays_40 ⟨fun q => absurd q (by decide), fun _ => c_Mo_bitsOf (d := d + 3) ?_⟩
      rw [zpc_nat (by omega)]
      have hnp : (npc 14 x : Int) ≤ 14 := by have := (zpc_ge (x : Int) 14).2; rw [zpc_nat (by omega)] at this; exact this
      have hset : (fun k => zb (zand s (zxor (x : Int) (-1))) k) = lsB S 0 x := by
        funext k
        rw [← hS]
        unfold lsB
        rw [zb_and]
        by_cases hk : k < 32
        · rw [zb_not _ hk, zbn (by omega)]; simp
        · simp [zb_hi s (show 32 ≤ k by omega)]
      have go : ∀ sn : Int, (sn = 1 ∨ sn = -1) → sn = sg 14 x → zC (d + 4) K_Mo_addWays [(2, Int.ofNat 122), (0, pl), (0, (n : Int)), (0, zand s (zxor (x : Int) (-1))), (0, sn)] m (fun r6 m3 => ((x : Int) = 0 → ∀ x7 : Int, x7 = zand (zsub x 1) u → zG (d + 5) M_Mo_layWays 40 [(2, Int.ofNat 122), (0, pl), (0, (n : Int)), (0, s), (0, (u : Int)), (0, x7), (0, 0), (9, 0)] [] m3 Q) ∧ ((x : Int) ≠ 0 → ∀ x8 : Int, x8 = zand (zsub x 1) u → zG (d + 5) M_Mo_layWays 40 [(2, Int.ofNat 122), (0, pl), (0, (n : Int)), (0, s), (0, (u : Int)), (0, x8), (0, 1), (9, 0)] [] m3 Q)) := by
        intro sn h1 h2
        refine c_Mo_addWays (d := d) hn (by rw [e3]; exact hD) (by rw [e3]; exact hp) h1 hA (zand_I _ _) (fun m' hm' hf' => ?_)
        obtain ⟨n1, n2⟩ := hnx m' (fun r hr => by
          rw [hm' r hr, e3, hset, h2]
          show _ = w64 (A r + sg 14 x * cn (mem 123) (lsB S 0 x) (fRm (mem 123) r) n (loB u 0) pl)
          rw [hlo]) (hf.trans hf')
        exact ⟨fun q x7 e7 => by rw [e7]; exact n1 q, fun q x8 e8 => by rw [e8]; exact n2 q⟩
      rw [zr (by omega) (by omega)]
      refine ⟨fun c1 => go (-1) (Or.inr rfl) ?_, fun c1 => go 1 (Or.inl rfl) ?_⟩
      · unfold sg; rw [if_neg (by omega)]
      · unfold sg; rw [if_pos (by omega)]
    induction c with
    | zero =>
      rintro x v ⟨rfl, rfl⟩ hx A m hA hf hfin
      refine one 0 A m hx hA hf (fun m' h1 h2 => ⟨fun _ => v_Mo_layWays_40 ⟨fun _ => hfin m' h1 h2, fun q => absurd rfl q⟩, fun q => absurd rfl q⟩)
    | succ c ih =>
      rintro x v (⟨rfl, rfl⟩ | ⟨hx0, v', h, rfl⟩) hx A m hA hf hfin
      · refine one 0 A m hx hA hf (fun m' h1 h2 => ⟨fun _ => v_Mo_layWays_40 ⟨fun _ => hfin m' h1 h2, fun q => absurd rfl q⟩, fun q => absurd rfl q⟩)
      · refine one x A m hx hA hf (fun m' h1 h2 => ⟨fun q => absurd q (by omega), fun _ => ?_⟩)
        rw [zs (by omega), show (x : Int) - 1 = ((x - 1 : Nat) : Int) by omega, zand_nat (by omega) (by omega)]
        have hlt : (x - 1) &&& u ≤ x - 1 := Nat.and_le_left
        refine ih _ v' h (by omega) (fun r => A r + f x r) m' h1 h2 (fun m3 h3 h4 => hfin m3 (fun r hr => ?_) h4)
        rw [h3 r hr, Int.add_assoc]
  have zero : ∀ (c i : Nat) (m : zMem), i + c = 10 → (∀ r, r < i → m 141 r = 0) → aFr mem m → zG (d + 5) M_Mo_layWays 3 [(2, Int.ofNat 122), (0, pl), (0, (n : Int)), (0, s), (0, (u : Int)), (0, (i : Int)), (9, 0), (9, 0)] [] m Q := by
    intro c
    induction c with
    | zero =>
      intro i m hi h1 hf
      refine v_Mo_layWays_3 ⟨fun _ => c_Mo_bitsOf (d := d + 3) ⟨fun c1 => ?_, fun c1 => ?_⟩, fun c => by omega⟩
      · have hz : ∀ F : Int → Int, cn (mem 123) S F n (fun k => u.testBit k) pl = 0 := fun F => by
          refine cn_few n _ _ ?_
          rw [zpc_ct] at c1
          have e : zct (fun k => zB (u : Int) k) 14 = zct (fun k => (fun k => u.testBit k) k = true) 14 := zct_cg 14 (fun k _ => by unfold zB; rw [zbn (by omega)])
          rw [e] at c1
          exact c1
        exact sum 10 0 m (by omega) (fun r hr => by rw [h1 r (by omega), hz]) hf
      · obtain ⟨c, hc⟩ := LR_SS 14 u f hu
        have hSS := SS_cn (g := mem 123) (S := S) (pl := pl) (n := n) (fRm (mem 123)) (U0 := u) hu 14 0 (by omega)
        rw [Nat.pow_zero, Nat.div_one] at hSS
        rw [show SS 14 u f = _ from hSS] at hc
        refine loop c u _ hc hu (fun _ => 0) m (fun r hr => by rw [h1 r (by omega)]; rfl) hf (fun m' h3 h4 => ?_)
        refine sum 10 0 m' (by omega) (fun r hr => ?_) h4
        have := hcb r
        rw [h3 r hr, Int.zero_add, w64_id (by unfold zJ; omega)]
    | succ c ih =>
      intro i m hi h1 hf
      refine v_Mo_layWays_3 ⟨fun c => by omega, fun _ => ⟨by omega, fun m2 e2 x3 e3 => ?_⟩⟩
      rw [za (by omega)] at e3
      rw [Int.toNat_natCast] at e2
      rw [e3]
      refine ih (i + 1) m2 (by omega) (fun r hr => ?_) (fun k hk => by funext j; rw [e2, zup_k (by omega), hf k hk])
      rw [e2, zup_at]
      by_cases e : r = i
      · rw [if_pos ⟨rfl, e⟩]
      · rw [if_neg (fun z => e z.2), h1 r (by omega)]
  exact v_Mo_layWays (zero 10 0 mem (by omega) (fun r hr => by omega) aFr.refl)
/-- the least door by which a way begins -/
def fsD (g : zPg) (S : Nat → Bool) (n : Nat) (U : Nat → Bool) (pl : Int) (k : Nat) : Prop := (S k = true ∧ pMay g pl k ∧ cn g S one1 n (rmB U k) (pStep g pl k) ≠ 0) ∧ ∀ j, j < k → ¬ (S j = true ∧ pMay g pl j ∧ cn g S one1 n (rmB U j) (pStep g pl j) ≠ 0)
theorem fsD_fn {n k k' : Nat} (h : fsD g S n U pl k) (h' : fsD g S n U pl k') : k = k' := by
  rcases Nat.lt_trichotomy k k' with q | q | q
  · exact absurd h.1 (h'.2 k q)
  · exact q
  · exact absurd h'.1 (h.2 k' q)
/-- the i-th door of the first way -/
def aWy (g : zPg) (S : Nat → Bool) : Nat → (Nat → Bool) → Int → Nat → Nat → Prop
  | 0, _, _, _, _ => False
  | n + 1, U, pl, 0, k => fsD g S n U pl k
  | n + 1, U, pl, i + 1, k => ∃ j, fsD g S n U pl j ∧ aWy g S n (rmB U j) (pStep g pl j) i k
theorem aWy_fn : ∀ (n : Nat) (U : Nat → Bool) (pl : Int) (i k k' : Nat), aWy g S n U pl i k → aWy g S n U pl i k' → k = k'
  | 0, _, _, _, _, _, h, _ => h.elim
  | n + 1, U, pl, 0, k, k', h, h' => fsD_fn h h'
  | n + 1, U, pl, i + 1, k, k', h, h' => by
    obtain ⟨j, h1, h2⟩ := h
    obtain ⟨j', h3, h4⟩ := h'
    rw [← fsD_fn h1 h3] at h4
    exact aWy_fn n _ _ i k k' h2 h4
theorem cn_nz {n : Nat} (h : cn g S one1 (n + 1) U pl ≠ 0) : ∃ k, fsD g S n U pl k := by
  have h1 : ∃ k, k < (gN g).toNat ∧ (S k = true ∧ pMay g pl k ∧ cn g S one1 n (rmB U k) (pStep g pl k) ≠ 0) := by
    refine Classical.byContradiction fun q => h ?_
    rw [cn_s]
    refine zsum_z _ (fun k hk => ?_)
    split
    · rename_i c
      exact Classical.byContradiction fun z => q ⟨k, hk, c.1, c.2, z⟩
    · rfl
  obtain ⟨k, -, hk⟩ := h1
  have : ∀ b, ∀ k, k < b → (S k = true ∧ pMay g pl k ∧ cn g S one1 n (rmB U k) (pStep g pl k) ≠ 0) → ∃ k, fsD g S n U pl k := by
    intro b
    induction b with
    | zero => intro k hk; omega
    | succ b ih =>
      intro k hk hP
      by_cases q : ∃ j, j < k ∧ (S j = true ∧ pMay g pl j ∧ cn g S one1 n (rmB U j) (pStep g pl j) ≠ 0)
      · obtain ⟨j, j1, j2⟩ := q
        exact ih j (by omega) j2
      · exact ⟨k, hP, fun j hj z => q ⟨j, hj, z⟩⟩
  exact this (k + 1) k (by omega) hk
end
