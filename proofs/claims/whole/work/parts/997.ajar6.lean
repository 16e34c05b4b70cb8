section
/-! ajar agrees. -/
variable {d w : Nat} {mem m m' m2 : zMem} {Q : Int → zMem → Prop} {R S : zMem → Prop} {g : zPg}
theorem cn_rm {S' : Nat → Bool} {rm : Int} (hD : gDo g) (h3 : ∀ k : Nat, (k : Int) < gN g → gA g k < rm ∧ gB g k < rm) {j : Nat} (hj : rm ≤ j) : ∀ (n : Nat) (U : Nat → Bool) (pl : Int), pOK g pl → pR g pl < rm → cn g S' (fRm g j) n U pl = 0
  | 0, U, pl, hp, hr => by
    rw [cn_0]
    split
    · unfold fRm; rw [if_neg (by omega)]
    · rfl
  | n + 1, U, pl, hp, hr => by
    rw [cn_s]
    refine zsum_z _ (fun k hk => ?_)
    split
    · rename_i c
      have hkN : (k : Int) < gN g := c.2.1.1
      obtain ⟨s1, -, s2, -⟩ := pStep_ok hD hp hkN
      refine cn_rm hD h3 hj n _ _ s1 ?_
      have := h3 k hkN
      rw [s2]
      unfold gBy
      split <;> omega
    · rfl
theorem T_ajar {a b s c : Int} (hI : Inv mem) (hR : ∀ m', Inv m' → R m') : zC (d + 17) K_Od_ajar [(2, Int.ofNat 0), (0, a), (0, b), (0, s), (0, c)] mem (fun r1 m1 => zC (d + 17) K_Mo_ajar [(2, Int.ofNat 122), (0, a), (0, b), (0, s), (0, c)] m1 (fun r2 m2 => (r1 = r2 → R m2) ∧ (r1 ≠ r2 → S m2))) := by
  obtain ⟨⟨w1, w2, w3, w4, w5, w6, w7⟩, hP⟩ := id hI.1
  have h20 : mem 2 0 = mem 122 1 := hP.1.1
  have h22 : mem 2 2 = gN (mem 123) := hP.1.2.2.1
  have hNN := w1.1
  obtain ⟨z1, z2, z3⟩ := zshl_N hNN
  have bad : ¬ ((0 ≤ a ∧ a < mem 122 1) ∧ (0 ≤ b ∧ b ≤ 6) ∧ (0 ≤ s ∧ s < zshl 1 (gN (mem 123))) ∧ (c = 0 ∨ c = 1 ∨ (10 ≤ c ∧ c ≤ 15))) → zC (d + 17) K_Mo_ajar [(2, Int.ofNat 122), (0, a), (0, b), (0, s), (0, c)] mem (fun r2 m2 => (-1 = r2 → R m2) ∧ (-1 ≠ r2 → S m2)) := fun hb =>
    c_Mo_ajar (d := d + 10) hI.1 (fun _ => ⟨fun _ => hR _ hI, fun q => absurd rfl q⟩) (fun h1 h2 h3 h4 => absurd ⟨h1, h2, h3, h4⟩ hb)
  have bad61 : ¬ ((0 ≤ a ∧ a < mem 122 1) ∧ (0 ≤ b ∧ b ≤ 6) ∧ (0 ≤ s ∧ s < zshl 1 (gN (mem 123))) ∧ (c = 0 ∨ c = 1 ∨ (10 ≤ c ∧ c ≤ 15))) → zG (d + 17) M_Od_ajar 61 [(9, 0), (9, 0), (9, 0), (9, 0), (9, 0), (9, 0)] [] mem (fun r1 m1 => zC (d + 17) K_Mo_ajar [(2, Int.ofNat 122), (0, a), (0, b), (0, s), (0, c)] m1 (fun r2 m2 => (r1 = r2 → R m2) ∧ (r1 ≠ r2 → S m2))) := fun hb => v_Od_ajar_61 (bad hb)
  have go : ∀ l5 : Int, (0 ≤ a ∧ a < mem 122 1) → (0 ≤ b ∧ b ≤ 6) → (c = 0 ∨ c = 1 ∨ (10 ≤ c ∧ c ≤ 15)) → (l5 = 0 ↔ c < 10) → zG (d + 17) M_Od_ajar 63 [(2, Int.ofNat 0), (0, a), (0, b), (0, s), (0, c), (0, l5)] [] mem (fun r1 m1 => zC (d + 17) K_Mo_ajar [(2, Int.ofNat 122), (0, a), (0, b), (0, s), (0, c)] m1 (fun r2 m2 => (r1 = r2 → R m2) ∧ (r1 ≠ r2 → S m2))) := by
    intro l5 ha hb hc hl
    refine v_Od_ajar_63 ⟨fun c1 => bad (fun z => by omega), fun c1 => ?_⟩
    rw [h22]
    refine ⟨fun c2 => ?_, fun c2 => bad (fun z => by omega)⟩
    have ref : ∀ (v : Int) (m1 : zMem), aAns (mem 123) (mem 122 1) (fun k => zb s k) (fun k => zb s k) (pNew a) b.toNat c v → (∀ k, k < 119 ∨ 121 < k → m1 k = mem k) → zC (d + 17) K_Mo_ajar [(2, Int.ofNat 122), (0, a), (0, b), (0, s), (0, c)] m1 (fun r2 m2 => (v = r2 → R m2) ∧ (v ≠ r2 → S m2)) := by
      intro v m1 hv hf
      have hs : zKp mem m1 := zKp.cl (fun k hk => hf k (by omega))
      have e3 := hs.pg
      have e1 := hs.ro
      have hI1 := hI.sc hs
      refine c_Mo_ajar (d := d + 10) hI1.1 (fun z => absurd ⟨by rw [e1]; exact ha, hb, ⟨c1, by rw [e3]; exact c2⟩, hc⟩ z) (fun _ _ _ _ v' m2 hv' hf2 => ?_)
      rw [e3, e1] at hv'
      have := aAns_fn (by omega) hv hv'
      exact ⟨fun _ => hR _ (hI1.sc hf2.sc), fun q => absurd this q⟩
    obtain ⟨n, rfl⟩ : ∃ n : Nat, b = (n : Int) := ⟨b.toNat, by omega⟩
    rw [z1] at c2
    obtain ⟨u, rfl⟩ : ∃ u : Nat, s = (u : Int) := ⟨s.toNat, by omega⟩
    have hu : u < 16384 := by omega
    have hub : (fun k => zb (u : Int) k) = fun k => u.testBit k := zb_nat' (by omega)
    have hsz : zI (u : Int) := by unfold zI; omega
    have hsN : ∀ k, zB (u : Int) k → (k : Int) < gN (mem 123) := by
      intro k hk
      refine Classical.byContradiction fun q => ?_
      refine zB_of_lt (x := (u : Int)) (by omega) (n := (gN (mem 123)).toNat) (by omega) ?_ (k := k) (by omega) hk
      have : (u : Int) < ((2 ^ (gN (mem 123)).toNat : Nat) : Int) := by omega
      simpa using this
    have hpr := pRep.new (g := mem 123) (r := a) (by omega)
    have h6 := pow6 (i := n) (by omega)
    refine v_Tr_seek fun m1 e1 m2 e2 m3 e3 m4 e4 => ?_
    have f4 : ∀ k, k ≠ 119 → m4 k = mem k := fun k hk => by funext j; rw [e4, zup_k hk, e3, zup_k hk, e2, zup_k hk, e1, zup_k hk]
    have g5 : m4 119 5 = n := by rw [e4, zup_j (by omega), e3, zup_j (by omega), e2, zup_j (by omega), e1, zup_e]
    have g4 : m4 119 4 = (u : Int) := by rw [e4, zup_j (by omega), e3, zup_j (by omega), e2, zup_e]
    have g2 : m4 119 2 = 0 := by rw [e4, zup_j (by omega), e3, zup_e]
    have g3 : m4 119 3 = 0 := by rw [e4, zup_e]
    have hH4 : Hs m4 2 (mem 123) (mem 122 1) := hP.1.fr (fun k k1 k2 => f4 k (by omega))
    have key := c_Tr_follow (g := mem 123) (rm := mem 122 1) (n := n) (s := (u : Int)) w1 (by omega) hsz hsN n (d + (12 - 2 * n) + 1) 0 u (pNew a) a (-4) (-4) m4 (fun r1 m1 => ((l5 = 0 → ((c ≠ 0 → zC (d + 17) K_Mo_ajar [(2, Int.ofNat 122), (0, a), (0, (n : Int)), (0, (u : Int)), (0, c)] m1 (fun r2 m2 => (m1 119 3 = r2 → R m2) ∧ (m1 119 3 ≠ r2 → S m2))) ∧ (c = 0 → zC (d + 17) K_Mo_ajar [(2, Int.ofNat 122), (0, a), (0, (n : Int)), (0, (u : Int)), (0, c)] m1 (fun r2 m2 => (m1 119 2 = r2 → R m2) ∧ (m1 119 2 ≠ r2 → S m2))))) ∧ (l5 ≠ 0 → ((m1 119 2 ≤ 0 → zC (d + 17) K_Mo_ajar [(2, Int.ofNat 122), (0, a), (0, (n : Int)), (0, (u : Int)), (0, c)] m1 (fun r2 m2 => (-4 = r2 → R m2) ∧ (-4 ≠ r2 → S m2))) ∧ (0 < m1 119 2 → (((n : Int) ≤ zsub c 10 → zC (d + 17) K_Mo_ajar [(2, Int.ofNat 122), (0, a), (0, (n : Int)), (0, (u : Int)), (0, c)] m1 (fun r2 m2 => (-4 = r2 → R m2) ∧ (-4 ≠ r2 → S m2))) ∧ (zsub c 10 < (n : Int) → ((0 ≤ zsub c 10 ∧ zsub c 10 < 6) ∧ zC (d + 17) K_Mo_ajar [(2, Int.ofNat 122), (0, a), (0, (n : Int)), (0, (u : Int)), (0, c)] m1 (fun r2 m2 => (m1 120 (zsub c 10).toNat = r2 → R m2) ∧ (m1 120 (zsub c 10).toNat ≠ r2 → S m2))))))))) ) (by omega) hu hpr (by omega) (Or.inl rfl) hH4 g5 g4 (by omega) (fun m5 hpo => ?_)
    · rw [show d + (12 - 2 * n) + 1 + 2 * n + 2 = d + 15 by omega, show zn4 (-4) = -1 by decide] at key
      exact key
    · obtain ⟨q1, q2, q3, q4, q5, q6, q7⟩ := hpo
      have q3 : m5 119 2 = m4 119 2 + cn (mem 123) (fun k => zb (u : Int) k) one1 n (fun k => u.testBit k) (pNew a) := q3
      have hge := cn_ge (g := mem 123) (S := fun k => zb (u : Int) k) (F := one1) (fun _ => by show (0 : Int) ≤ 1; omega) n (fun k => u.testBit k) (pNew a)
      have hf : ∀ k, k < 119 ∨ 121 < k → m5 k = mem k := fun k hk => by rw [q1 k hk, f4 k (by omega)]
      rw [g2, Int.zero_add] at q3
      have q4 : ∀ x : Nat, x < 32 → (zB (m5 119 3) x ↔ zB (m4 119 3) x ∨ 0 < cn (mem 123) (fun k => zb (u : Int) k) (fRm (mem 123) x) n (fun k => u.testBit k) (pNew a)) := q4
      have q7 : m4 119 2 = 0 → cn (mem 123) (fun k => zb (u : Int) k) one1 n (fun k => u.testBit k) (pNew a) ≠ 0 → (∀ i, i < 0 → m5 120 i = m4 121 i) ∧ ∀ i, i < n → ∃ k : Nat, m5 120 (0 + i) = k ∧ aWy (mem 123) (fun k => zb (u : Int) k) n (fun k => u.testBit k) (pNew a) i k := q7
      rw [hub] at q3 q4 q7 hge ref
      rw [Int.toNat_natCast] at ref
      refine ⟨fun k0 => ⟨fun k1 => zC.rg fun _ hrg => ref _ m5 ⟨fun z => absurd z k1, fun z => ⟨zrg_i hrg (by decide) _, fun x hx => ?_⟩, fun z => by omega⟩ hf, fun k1 => ref _ m5 ⟨fun _ => ?_, fun z => by omega, fun z => by omega⟩ hf⟩, fun k0 => ?_⟩
      · rw [q4 x hx, g3]
        constructor
        · rintro (q | q)
          · exact absurd q (zB_0 x)
          · refine ⟨Classical.byContradiction fun y => ?_, q⟩
            rw [cn_rm w1 w3 (by omega) n _ _ hpr.1 (by rw [hpr.2.1]; omega)] at q
            omega
        · exact fun q => Or.inr q.2
      · exact q3
      · rw [zs (by omega)]
        refine ⟨fun k1 => ref _ m5 ⟨fun z => by omega, fun z => by omega, fun _ => ⟨fun _ => rfl, fun _ => rfl, fun z => absurd (by omega) z⟩⟩ hf, fun k1 => ⟨fun k2 => ref _ m5 ⟨fun z => by omega, fun z => by omega, fun _ => ⟨fun _ => rfl, fun _ => rfl, fun _ z => by omega⟩⟩ hf, fun k2 => ⟨by omega, ref _ m5 ⟨fun z => by omega, fun z => by omega, fun _ => ⟨fun z => by omega, fun z => by omega, fun z _ => ?_⟩⟩ hf⟩⟩⟩
        obtain ⟨k, h1, h2⟩ := (q7 g2 z).2 (c - 10).toNat (by omega)
        rw [Nat.zero_add] at h1
        exact ⟨k, h1, h2⟩
  refine v_Od_ajar ⟨fun k1 => ?_, fun k1 => ⟨fun k2 => ?_, fun k2 => ?_⟩⟩
  · refine c_Ho_hasRoom (d := d + 15) (Or.inl rfl) (fun c1 => ⟨fun q => absurd q (by decide), fun _ => ?_⟩) (fun c1 => ⟨fun _ => bad61 (fun z => c1 (by rw [h20]; exact z.1)), fun q => absurd rfl q⟩)
    rw [h20] at c1
    exact ⟨fun c2 => bad61 (fun z => by omega), fun c2 => ⟨fun c3 => bad61 (fun z => by omega), fun c3 => ⟨fun c4 => go 0 c1 ⟨c2, c3⟩ (Or.inl c4) (by omega), fun c4 => ⟨fun c5 => go 0 c1 ⟨c2, c3⟩ (Or.inr (Or.inl c5)) (by omega), fun c5 => bad61 (fun z => by omega)⟩⟩⟩⟩
  · refine c_Ho_hasRoom (d := d + 15) (Or.inl rfl) (fun c1 => ⟨fun q => absurd q (by decide), fun _ => ?_⟩) (fun c1 => ⟨fun _ => bad61 (fun z => c1 (by rw [h20]; exact z.1)), fun q => absurd rfl q⟩)
    exact ⟨fun c2 => bad61 (fun z => by omega), fun c2 => ⟨fun c3 => bad61 (fun z => by omega), fun c3 => ⟨fun c4 => by omega, fun c4 => ⟨fun c5 => by omega, fun c5 => bad61 (fun z => by omega)⟩⟩⟩⟩
  · refine c_Ho_hasRoom (d := d + 15) (Or.inl rfl) (fun c1 => ⟨fun q => absurd q (by decide), fun _ => ?_⟩) (fun c1 => ⟨fun _ => bad61 (fun z => c1 (by rw [h20]; exact z.1)), fun q => absurd rfl q⟩)
    rw [h20] at c1
    exact ⟨fun c2 => bad61 (fun z => by omega), fun c2 => ⟨fun c3 => bad61 (fun z => by omega), fun c3 => ⟨fun c4 => by omega, fun c4 => ⟨fun c5 => by omega, fun c5 => go 1 c1 ⟨c2, c3⟩ (Or.inr (Or.inr ⟨k1, by omega⟩)) (by omega)⟩⟩⟩⟩
end
