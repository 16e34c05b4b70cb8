section
/-! ajar: the reference's answers. -/
variable {d w : Nat} {mem m m' m2 : zMem} {Q : Int → zMem → Prop} {g : zPg} {S U : Nat → Bool} {pl : Int}
theorem zshl_15 : ∀ n, n < 15 → zshl 1 (Int.ofNat n) = ((2 ^ n : Nat) : Int) := by decide +kernel
theorem zshl_N {N : Int} (h : 0 ≤ N ∧ N ≤ 14) : zshl 1 N = ((2 ^ N.toNat : Nat) : Int) ∧ (2 ^ N.toNat : Nat) ≤ 16384 ∧ 1 ≤ (2 ^ N.toNat : Nat) := by
  have h1 := zshl_15 N.toNat (by omega)
  rw [show Int.ofNat N.toNat = N by simp; omega] at h1
  refine ⟨h1, ?_, Nat.one_le_two_pow⟩
  have : (2 : Nat) ^ N.toNat ≤ 2 ^ 14 := Nat.pow_le_pow_right (by decide) (by omega)
  exact this
theorem clr_n {u k : Nat} (hu : u < 16384) (hk : k < 32) : ∃ u' : Nat, u' < 16384 ∧ zand (u : Int) (zxor (zshl 1 (k : Int)) (-1)) = (u' : Int) ∧ (fun j => u'.testBit j) = rmB (fun j => u.testBit j) k := by
  have hb : ∀ j, j < 32 → (zB (zand (u : Int) (zxor (zshl 1 (k : Int)) (-1))) j ↔ u.testBit j = true ∧ j ≠ k) := fun j hj => by
    rw [(zB_put hj (by omega) (by omega)).2]
    unfold zB
    rw [zbn (by omega)]
    exact ⟨fun q => ⟨q.1, by omega⟩, fun q => ⟨q.1, by omega⟩⟩
  have hs := zB_small (x := zand (u : Int) (zxor (zshl 1 (k : Int)) (-1))) (zand_I _ _) (n := 14) (by omega) (fun j j1 j2 q => by
    have := ((hb j j2).mp q).1
    rw [Nat.testBit_lt_two_pow (Nat.lt_of_lt_of_le hu (show 16384 ≤ 2 ^ j from Nat.pow_le_pow_right (n := 2) (by decide) j1))] at this
    exact absurd this (by decide))
  refine ⟨(zand (u : Int) (zxor (zshl 1 (k : Int)) (-1))).toNat, by omega, by omega, ?_⟩
  have h2 : (((zand (u : Int) (zxor (zshl 1 (k : Int)) (-1))).toNat : Nat) : Int) = zand (u : Int) (zxor (zshl 1 (k : Int)) (-1)) := by omega
  generalize (zand (u : Int) (zxor (zshl 1 (k : Int)) (-1))).toNat = v at h2 
  have hv : v < 16384 := by omega
  funext j
  by_cases hj : j < 32
  · have := hb j hj
    rw [← h2] at this
    unfold zB at this
    rw [zbn (by omega)] at this
    by_cases e : j = k
    · rw [e, rmB_e]
      have : ¬ v.testBit k = true := by rw [← e]; exact fun q => (this.mp q).2 e
      simpa using this
    · rw [rmB_n _ e]
      cases h : u.testBit j with
      | true => exact this.mpr ⟨h, e⟩
      | false =>
        have : ¬ v.testBit j = true := fun q => by have := (this.mp q).1; rw [h] at this; exact absurd this (by decide)
        simpa using this
  · have big : ∀ x, x < 16384 → x.testBit j = false := fun x hx => Nat.testBit_lt_two_pow (Nat.lt_of_lt_of_le hx (show 16384 ≤ 2 ^ j from Nat.pow_le_pow_right (n := 2) (show 0 < 2 by decide) (show 14 ≤ j by omega)))
    rw [big v hv]
    show false = (u.testBit j && !(j == k))
    rw [big u hu]
    rfl
def aAns (g : zPg) (rm : Int) (S U : Nat → Bool) (pl : Int) (n : Nat) (c v : Int) : Prop :=
  (c = 0 → v = cn g S one1 n U pl) ∧ (c = 1 → zI v ∧ ∀ j : Nat, j < 32 → (zB v j ↔ (j : Int) < rm ∧ 0 < cn g S (fRm g j) n U pl)) ∧ (10 ≤ c → (cn g S one1 n U pl = 0 → v = -4) ∧ (n ≤ c - 10 → v = -4) ∧ (cn g S one1 n U pl ≠ 0 → c - 10 < n → ∃ k : Nat, v = k ∧ aWy g S n U pl (c - 10).toNat k))
theorem aAns_fn {rm c v v' : Int} {n : Nat} (hc : c = 0 ∨ c = 1 ∨ 10 ≤ c) (h : aAns g rm S U pl n c v) (h' : aAns g rm S U pl n c v') : v = v' := by
  rcases hc with q | q | q
  · rw [h.1 q, h'.1 q]
  · obtain ⟨a1, a2⟩ := h.2.1 q
    obtain ⟨b1, b2⟩ := h'.2.1 q
    exact zB_ext a1 b1 (fun k hk => by rw [a2 k hk, b2 k hk])
  · obtain ⟨a1, a2, a3⟩ := h.2.2 q
    obtain ⟨b1, b2, b3⟩ := h'.2.2 q
    by_cases z : cn g S one1 n U pl = 0
    · rw [a1 z, b1 z]
    · by_cases y : n ≤ c - 10
      · rw [a2 y, b2 y]
      · obtain ⟨k, k1, k2⟩ := a3 z (by omega)
        obtain ⟨k', k3, k4⟩ := b3 z (by omega)
        rw [k1, k3, aWy_fn _ _ _ _ _ _ k2 k4]
theorem l_Mo_ajar {n : Nat} {s c : Int} (hn : n ≤ 6) (hD : gDo (mem 123)) (hs : zI s) (hsN : ∀ k, zB s k → (k : Int) < gN (mem 123)) (hc : 10 ≤ c ∧ c ≤ 15) :
    ∀ (e i u : Nat) (pl l9 : Int) (m : zMem), (i : Int) + e = c - 10 → i + e < n → u < 16384 → pOK (mem 123) pl → cn (mem 123) (fun k => zb s k) one1 (n - i) (fun k => u.testBit k) pl ≠ 0 → aFr mem m → (∀ (k : Nat) (m' : zMem), aWy (mem 123) (fun k => zb s k) (n - i) (fun k => u.testBit k) pl e k → aFr mem m' → Q k m') → zG (d + 6) M_Mo_ajar 176 [(2, Int.ofNat 122), (9, 0), (0, (n : Int)), (0, s), (0, c), (0, pl), (9, 0), (9, 0), (0, (u : Int)), (0, l9), (0, (i : Int))] [] m Q := by
  generalize hS : (fun k => zb s k) = S
  have hSb : ∀ k, S k = true ↔ zB s k := fun k => by rw [← hS]; rfl
  have hNN := hD.1
  intro e
  -- one door
  have one : ∀ (i u : Nat) (pl : Int) (m : zMem), i < n → (i : Int) ≤ c - 10 → u < 16384 → pOK (mem 123) pl → cn (mem 123) S one1 (n - i) (fun k => u.testBit k) pl ≠ 0 → aFr mem m → (∀ (k u' : Nat) (m' : zMem), fsD (mem 123) S (n - (i + 1)) (fun k => u.testBit k) pl k → u' < 16384 → (fun j => u'.testBit j) = rmB (fun j => u.testBit j) k → aFr mem m' → zG (d + 6) M_Mo_ajar 176 [(2, Int.ofNat 122), (9, 0), (0, (n : Int)), (0, s), (0, c), (0, pStep (mem 123) pl k), (9, 0), (9, 0), (0, (u' : Int)), (0, (k : Int)), (0, ((i + 1 : Nat) : Int))] [] m' Q) → ∀ l9 : Int, zG (d + 6) M_Mo_ajar 176 [(2, Int.ofNat 122), (9, 0), (0, (n : Int)), (0, s), (0, c), (0, pl), (9, 0), (9, 0), (0, (u : Int)), (0, l9), (0, (i : Int))] [] m Q := by
    intro i u pl m hi hic hu hp hnz hf hnx l9
    rw [show n - i = (n - (i + 1)) + 1 by omega] at hnz
    obtain ⟨k, hk⟩ := cn_nz hnz
    have hkN : (k : Int) < gN (mem 123) := hk.1.2.1.1.1
    have loop : ∀ (b x : Nat) (m : zMem), x + b = k → aFr mem m → zG (d + 6) M_Mo_ajar 189 [(2, Int.ofNat 122), (9, 0), (0, (n : Int)), (0, s), (0, c), (0, pl), (9, 0), (9, 0), (0, (u : Int)), (0, (x : Int)), (0, (i : Int))] [] m Q := by
      intro b
      induction b with
      | zero =>
        intro x m hx hf
        have hx : x = k := by omega
        subst hx
        obtain ⟨⟨k1, k2, k3⟩, -⟩ := id hk
        have e3 : m 123 = mem 123 := hf 123 (by omega)
        have hst := (pStep_ok hD hp hkN).1
        refine v_Mo_ajar_189 ⟨fun c1 => ?_, fun _ => ?_⟩
        · rw [zB_test hs (by omega) (by omega), Int.toNat_natCast] at c1
          exact absurd ((hSb x).mp k1) c1
        · have stp : ∀ (m1 : zMem) (Q' : Int → zMem → Prop), aFr mem m1 → Q' (pStep (mem 123) pl x) m1 → zC (d + 5) K_Mo_stepped [(2, Int.ofNat 122), (0, pl), (0, (x : Int))] m1 Q' := by
            intro m1 Q' hf1 hq
            have e31 : m1 123 = mem 123 := hf1 123 (by omega)
            refine c_Mo_stepped (d := d + 3) (by rw [e31]; exact hp) (by rw [e31]; exact hD) (by rw [e31]; omega) (fun _ => ?_) (fun z => ?_)
            · rw [e31, Int.toNat_natCast]; exact hq
            · rw [e31, Int.toNat_natCast] at z; exact absurd k2 z
          refine stp m _ hf ⟨fun z => by have := hst.1; omega, fun _ => stp m _ hf ?_⟩
          obtain ⟨u', u1, u2, u3⟩ := clr_n hu (k := x) (by omega)
          rw [u2, zs (x := (n : Int)) (by omega), zs (by omega), show (n : Int) - i - 1 = ((n - (i + 1) : Nat) : Int) by omega]
          refine c_Mo_layWays (d := d) (by omega) (by rw [e3]; exact hD) (by rw [e3]; exact hst) hs u1 (fun m3 h3 hf3 => ?_)
          rw [e3, hS, u3]
          have hb : cn (mem 123) S one1 (n - (i + 1)) (rmB (fun j => u.testBit j) x) (pStep (mem 123) pl x) ≤ 14 ^ (n - (i + 1)) := cn_le (fun _ => Int.le_refl _) hNN.2 _ _ _
          have hb2 := cn_ge (g := mem 123) (S := S) (F := one1) (fun _ => by show (0 : Int) ≤ 1; omega) (n - (i + 1)) (rmB (fun j => u.testBit j) x) (pStep (mem 123) pl x)
          have hb3 := (pow6 (i := n - (i + 1)) (by omega)).2
          have hzl := zl_le (x := cn (mem 123) S one1 (n - (i + 1)) (rmB (fun j => u.testBit j) x) (pStep (mem 123) pl x)) (by unfold zJ; omega)
          refine ⟨fun _ => stp m3 _ (hf.trans hf3) (fun x7 e7 x8 e8 => ?_), fun z => absurd (hzl.2.2.mp z) k3⟩
          rw [za (by omega)] at e8
          rw [e7, e8]
          exact hnx x u' m3 hk u1 u3 (hf.trans hf3)
      | succ b ih =>
        intro x m hx hf
        have hno := hk.2 x (by omega)
        have e3 : m 123 = mem 123 := hf 123 (by omega)
        have nx : ∀ (m1 : zMem), aFr mem m1 → ∀ x1 : Int, x1 = zadd x 1 → zG (d + 6) M_Mo_ajar 189 [(2, Int.ofNat 122), (9, 0), (0, (n : Int)), (0, s), (0, c), (0, pl), (9, 0), (9, 0), (0, (u : Int)), (0, x1), (0, (i : Int))] [] m1 Q := by
          intro m1 hf1 x1 e1
          rw [za (by omega)] at e1
          rw [e1]
          exact ih (x + 1) m1 (by omega) hf1
        refine v_Mo_ajar_189 ⟨fun c1 => nx m hf, fun c1 => ?_⟩
        rw [zB_ne hs (by omega) (by omega), Int.toNat_natCast] at c1
        refine c_Mo_stepped (d := d + 3) (by rw [e3]; exact hp) (by rw [e3]; exact hD) (by rw [e3]; omega) (fun c2 => ?_) (fun _ => ⟨fun _ => nx m hf, fun q => absurd rfl q⟩)
        rw [e3, Int.toNat_natCast] at c2 ⊢
        have hst := (pStep_ok hD hp (show (x : Int) < gN (mem 123) by omega)).1
        refine ⟨fun z => by have := hst.1; omega, fun _ => ?_⟩
        refine c_Mo_stepped (d := d + 3) (by rw [e3]; exact hp) (by rw [e3]; exact hD) (by rw [e3]; omega) (fun _ => ?_) (fun z => by rw [e3, Int.toNat_natCast] at z; exact absurd c2 z)
        rw [e3, Int.toNat_natCast]
        obtain ⟨u', u1, u2, u3⟩ := clr_n hu (k := x) (by omega)
        rw [u2, zs (x := (n : Int)) (by omega), zs (by omega), show (n : Int) - i - 1 = ((n - (i + 1) : Nat) : Int) by omega]
        refine c_Mo_layWays (d := d) (by omega) (by rw [e3]; exact hD) (by rw [e3]; exact hst) hs u1 (fun m3 h3 hf3 => ?_)
        rw [e3, hS, u3]
        have hz : cn (mem 123) S one1 (n - (i + 1)) (rmB (fun j => u.testBit j) x) (pStep (mem 123) pl x) = 0 := Classical.byContradiction fun z => hno ⟨(hSb x).mpr c1, c2, z⟩
        rw [hz]
        exact ⟨fun z => absurd ((zl_le (x := 0) (by unfold zJ; omega)).2.2.mpr rfl) z, fun _ => nx m3 (hf.trans hf3)⟩
    refine v_Mo_ajar_176 ?_
    rw [zs (by omega)]
    exact ⟨fun z => by omega, fun _ => loop k 0 m (by omega) hf⟩
  induction e with
  | zero =>
    intro i u pl l9 m hic hi hu hp hnz hf hfin
    refine one i u pl m (by omega) (by omega) hu hp hnz hf (fun k u' m' h1 h2 h3 h4 => ?_) l9
    refine v_Mo_ajar_176 ?_
    rw [zs (by omega)]
    refine ⟨fun _ => hfin k m' ?_ h4, fun z => by omega⟩
    rw [show n - i = (n - (i + 1)) + 1 by omega]
    exact h1
  | succ e ih =>
    intro i u pl l9 m hic hi hu hp hnz hf hfin
    refine one i u pl m (by omega) (by omega) hu hp hnz hf (fun k u' m' h1 h2 h3 h4 => ?_) l9
    refine ih (i + 1) u' (pStep (mem 123) pl k) k m' (by omega) (by omega) h2 (pStep_ok hD hp h1.1.2.1.1.1).1 (by rw [h3]; exact h1.1.2.2) h4 (fun k' m2 h5 h6 => hfin k' m2 ?_ h6)
    rw [show n - i = (n - (i + 1)) + 1 by omega]
    rw [h3] at h5
    exact ⟨k, h1, h5⟩
theorem c_Mo_ajar {a b s c : Int} (hI : Ipal mem) (hB : ¬ ((0 ≤ a ∧ a < mem 122 1) ∧ (0 ≤ b ∧ b ≤ 6) ∧ (0 ≤ s ∧ s < zshl 1 (gN (mem 123))) ∧ (c = 0 ∨ c = 1 ∨ (10 ≤ c ∧ c ≤ 15))) → Q (-1) mem)
    (hQ : (0 ≤ a ∧ a < mem 122 1) → (0 ≤ b ∧ b ≤ 6) → (0 ≤ s ∧ s < zshl 1 (gN (mem 123))) → (c = 0 ∨ c = 1 ∨ (10 ≤ c ∧ c ≤ 15)) → ∀ (v : Int) (m' : zMem), aAns (mem 123) (mem 122 1) (fun k => zb s k) (fun k => zb s k) (pNew a) b.toNat c v → aFr mem m' → Q v m') : zC (d + 7) K_Mo_ajar [(2, Int.ofNat 122), (0, a), (0, b), (0, s), (0, c)] mem Q := by
  obtain ⟨⟨w1, w2, w3, w4, w5, w6, w7⟩, hP⟩ := id hI
  have hNN := w1.1
  obtain ⟨z1, z2, z3⟩ := zshl_N hNN
  refine v_Mo_ajar (c_Mo_isRoom (d := d + 4) (by omega) (fun c1 => ⟨fun q => absurd q (by decide), fun _ => ?_⟩) (fun c1 => ⟨fun _ => hB (fun z => c1 z.1), fun q => absurd rfl q⟩))
  refine c_Mo_in (d := d + 5) (fun c2 => ⟨fun q => absurd q (by decide), fun _ => ?_⟩) (fun c2 => ⟨fun _ => hB (fun z => c2 z.2.1), fun q => absurd rfl q⟩)
  refine c_Mo_doorMany (d := d + 5) ?_
  rw [show mem 123 56 = gN (mem 123) from rfl, z1, zs (by omega)]
  rw [z1] at hB hQ
  refine c_Mo_in (d := d + 5) (fun c3 => ⟨fun q => absurd q (by decide), fun _ => ?_⟩) (fun c3 => ⟨fun _ => hB (fun z => by omega), fun q => absurd rfl q⟩)
  obtain ⟨n, rfl⟩ : ∃ n : Nat, b = (n : Int) := ⟨b.toNat, by omega⟩
  obtain ⟨u, rfl⟩ : ∃ u : Nat, s = (u : Int) := ⟨s.toNat, by omega⟩
  rw [Int.toNat_natCast] at hQ
  have hu : u < 16384 := by omega
  have hub : (fun k => zb (u : Int) k) = fun k => u.testBit k := zb_nat' (by omega)
  have hsz : zI (u : Int) := by unfold zI; omega
  have hp : pOK (mem 123) (pNew a) := (pRep.new (g := mem 123) (r := a) (by omega)).1
  have hsN : ∀ k, zB (u : Int) k → (k : Int) < gN (mem 123) := by
    intro k hk
    refine Classical.byContradiction fun q => ?_
    refine zB_of_lt (x := (u : Int)) (by omega) (n := (gN (mem 123)).toNat) (by omega) ?_ (k := k) (by omega) hk
    have : (u : Int) < ((2 ^ (gN (mem 123)).toNat : Nat) : Int) := by omega
    simpa using this
  have h6 := pow6 (i := n) (by omega)
  have hb : cn (mem 123) (fun k => zb (u : Int) k) one1 n (fun k => u.testBit k) (pNew a) ≤ 14 ^ n := cn_le (fun _ => Int.le_refl _) hNN.2 _ _ _
  have hb2 := cn_ge (g := mem 123) (S := fun k => zb (u : Int) k) (F := one1) (fun _ => by show (0 : Int) ≤ 1; omega) n (fun k => u.testBit k) (pNew a)
  have hzl := zl_le (x := cn (mem 123) (fun k => zb (u : Int) k) one1 n (fun k => u.testBit k) (pNew a)) (by unfold zJ; omega)
  have main : (c = 0 ∨ c = 1 ∨ (10 ≤ c ∧ c ≤ 15)) → zC (d + 6) K_Mo_newIn [(0, a)] mem (fun r6 m6 => zC (d + 6) K_Mo_layWays [(2, Int.ofNat 122), (0, r6), (0, (n : Int)), (0, (u : Int)), (0, (u : Int))] m6 (fun r7 m7 => ((c ≠ 0 → ((c ≠ 1 → ((zlcmp r7 0 = 0 → Q (-4) m7) ∧ (zlcmp r7 0 ≠ 0 → ((zsub c 10 < (n : Int) → zG (d + 7) M_Mo_ajar 176 [(2, Int.ofNat 122), (9, 0), (0, (n : Int)), (0, (u : Int)), (0, c), (0, r6), (9, 0), (9, 0), (0, (u : Int)), (0, -4), (0, 0)] [] m7 Q) ∧ ((n : Int) ≤ zsub c 10 → Q (-4) m7))))) ∧ (c = 1 → zG (d + 7) M_Mo_ajar 104 [(2, Int.ofNat 122), (9, 0), (9, 0), (9, 0), (9, 0), (9, 0), (9, 0), (9, 0), (0, 0), (0, 0), (9, 0)] [] m7 Q))) ∧ (c = 0 → Q (zl2i r7) m7)))) := by
    intro hc
    have hQ := hQ c1 c2 (by omega) hc
    rw [hub] at hQ
    refine c_Mo_newIn (d := d + 4) (by omega) (c_Mo_layWays (d := d + 1) (by omega) w1 hp hsz hu (fun m7 h7 hf7 => ?_))
    rw [hub] at h7 hb hb2 hzl ⊢
    refine ⟨fun q0 => ⟨fun q1 => ?_, fun q1 => ?_⟩, fun q0 => ?_⟩
    · rw [zs (by omega)]
      refine ⟨fun z => hQ _ m7 ⟨fun q => absurd q q0, fun q => absurd q q1, fun _ => ⟨fun _ => rfl, fun _ => rfl, fun y => absurd (hzl.2.2.mp z) y⟩⟩ hf7, fun z => ⟨fun q2 => ?_, fun q2 => hQ _ m7 ⟨fun q => absurd q q0, fun q => absurd q q1, fun _ => ⟨fun _ => rfl, fun _ => rfl, fun _ y => by omega⟩⟩ hf7⟩⟩
      refine l_Mo_ajar (d := d + 1) (mem := mem) (n := n) (s := (u : Int)) (by omega) w1 hsz hsN (by omega) (c - 10).toNat 0 u (pNew a) (-4) m7 (by omega) (by omega) hu hp (by rw [hub]; exact fun y => z (hzl.2.2.mpr y)) hf7 (fun k m' h1 h2 => hQ _ m' ⟨fun q => absurd q q0, fun q => absurd q q1, fun _ => ⟨fun y => absurd (hzl.2.2.mpr y) z, fun y => by omega, fun _ _ => ⟨k, rfl, ?_⟩⟩⟩ h2)
      rw [hub, Nat.sub_zero] at h1
      exact h1
    · have hcr : ∀ r : Nat, 0 ≤ cn (mem 123) (fun k => u.testBit k) (fRm (mem 123) r) n (fun k => u.testBit k) (pNew a) ∧ cn (mem 123) (fun k => u.testBit k) (fRm (mem 123) r) n (fun k => u.testBit k) (pNew a) ≤ 7529536 := fun r =>
        ⟨cn_ge (fun p => (fRm_b r p).1) _ _ _, Int.le_trans (cn_le (fun p => (fRm_b r p).2) hNN.2 _ _ _) h6.2⟩
      have e1 : m7 122 = mem 122 := hf7 122 (by omega)
      have loop : ∀ (e i : Nat) (v : Int), (i : Int) + e = mem 122 1 → zI v → (∀ j : Nat, j < 32 → (zB v j ↔ (j : Int) < i ∧ 0 < cn (mem 123) (fun k => u.testBit k) (fRm (mem 123) j) n (fun k => u.testBit k) (pNew a))) → zG (d + 7) M_Mo_ajar 104 [(2, Int.ofNat 122), (9, 0), (9, 0), (9, 0), (9, 0), (9, 0), (9, 0), (9, 0), (0, v), (0, (i : Int)), (9, 0)] [] m7 Q := by
        intro e
        induction e with
        | zero =>
          intro i v hi hv hb
          refine v_Mo_ajar_104 ?_
          rw [e1]
          refine ⟨fun _ => hQ v m7 ⟨fun q => absurd q q0, fun _ => ⟨hv, fun j hj => ?_⟩, fun q => by omega⟩ hf7, fun z => by omega⟩
          rw [hb j hj, show (i : Int) = mem 122 1 by omega]
        | succ e ih =>
          intro i v hi hv hb
          have hci := hcr i
          have hz2 := zl_le (x := cn (mem 123) (fun k => u.testBit k) (fRm (mem 123) i) n (fun k => u.testBit k) (pNew a)) (by unfold zJ; omega)
          refine v_Mo_ajar_104 ?_
          rw [e1]
          refine ⟨fun z => by omega, fun z => ⟨by omega, ?_⟩⟩
          rw [Int.toNat_natCast, h7 i (by omega)]
          refine ⟨fun y x1 ex1 x2 ex2 => ?_, fun y x3 ex3 x4 ex4 => ?_⟩
          · rw [za (by omega)] at ex2
            rw [ex1, ex2]
            refine ih (i + 1) _ (by omega) (zor_I _ _) (fun j hj => ?_)
            rw [zB_or0, hb j hj]
            constructor
            · rintro ⟨a1, a2⟩; exact ⟨by omega, a2⟩
            · rintro ⟨a1, a2⟩
              by_cases e : j = i
              · rw [e] at a2; exact absurd (hz2.1.mp y) (by omega)
              · exact ⟨by omega, a2⟩
          · rw [za (by omega)] at ex4
            rw [ex3, ex4]
            refine ih (i + 1) _ (by omega) (zor_I _ _) (fun j hj => ?_)
            rw [(zB_put hj (by omega) (by omega)).1, hb j hj]
            constructor
            · rintro (⟨a1, a2⟩ | q)
              · exact ⟨by omega, a2⟩
              · rw [show j = i by omega]; exact ⟨by omega, hz2.2.1.mp y⟩
            · rintro ⟨a1, a2⟩
              by_cases e : j = i
              · right; omega
              · exact Or.inl ⟨by omega, a2⟩
      exact loop (mem 122 1).toNat 0 0 (by omega) zI_0 (fun j _ => ⟨fun q => absurd q (zB_0 j), fun q => by omega⟩)
    · refine hQ _ m7 ⟨fun _ => ?_, fun q => by omega, fun q => by omega⟩ hf7
      have : zl2i (cn (mem 123) (fun k => u.testBit k) one1 n (fun k => u.testBit k) (pNew a)) = cn (mem 123) (fun k => u.testBit k) one1 n (fun k => u.testBit k) (pNew a) := by
        rw [zl2i_w (by unfold zJ; omega)]
        unfold w32
        omega
      exact this
  refine c_Mo_in (d := d + 5) (fun c4 => ⟨fun _ => main (by omega), fun q => absurd q (by decide)⟩) (fun c4 => ⟨fun q => absurd rfl q, fun _ => ?_⟩)
  exact c_Mo_in (d := d + 5) (fun c5 => ⟨fun _ => main (Or.inr (Or.inr c5)), fun q => absurd q (by decide)⟩) (fun c5 => ⟨fun q => absurd rfl q, fun _ => hB (fun z => by omega)⟩)
end
