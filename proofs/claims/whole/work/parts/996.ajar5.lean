section
/-! ajar: the class. -/
variable {d w : Nat} {mem m m' m2 : zMem} {Q : Int → zMem → Prop} {R S' : zMem → Prop} {g : zPg} {rm pl r t u : Int}
/-- what a search lays, from the j-th door on -/
def tPost (g : zPg) (S : Nat → Bool) (j e : Nat) (V : (Int → Int) → Int) (Wy : Nat → Nat → Prop) (mem m' : zMem) : Prop :=
  (∀ c, c < 119 ∨ 121 < c → m' c = mem c) ∧ (m' 119 4 = mem 119 4 ∧ m' 119 5 = mem 119 5) ∧ m' 119 2 = mem 119 2 + V one1 ∧ (∀ x : Nat, x < 32 → (zB (m' 119 3) x ↔ zB (mem 119 3) x ∨ 0 < V (fRm g x))) ∧ (∀ i, i < j → m' 121 i = mem 121 i) ∧ (mem 119 2 ≠ 0 → ∀ i, i < 6 → m' 120 i = mem 120 i) ∧ (mem 119 2 = 0 → V one1 ≠ 0 → (∀ i, i < j → m' 120 i = mem 121 i) ∧ ∀ i, i < e → ∃ k : Nat, m' 120 (j + i) = k ∧ Wy i k)
theorem c_Tr_note (hr : 0 ≤ r ∧ r < 10) (hfo : 0 ≤ mem 119 2 ∧ mem 119 2 < 100000000) (hQ : ∀ m' : zMem, (∀ c, c < 119 ∨ 120 < c → m' c = mem c) → (m' 119 4 = mem 119 4 ∧ m' 119 5 = mem 119 5) → m' 119 2 = mem 119 2 + 1 → (∀ x : Nat, x < 32 → (zB (m' 119 3) x ↔ zB (mem 119 3) x ∨ (x : Int) = r)) → (mem 119 2 ≠ 0 → ∀ i, m' 120 i = mem 120 i) → (mem 119 2 = 0 → ∀ i, i < 6 → m' 120 i = mem 121 i) → Q 0 m') : zC (d + 1) K_Tr_note [(2, Int.ofNat 119), (0, r)] mem Q := by
  refine v_Tr_note ⟨fun c m1 e1 m2 e2 => ?_, fun c m3 e3 m4 e4 m5 e5 => ?_⟩
  · rw [za (by omega)] at e1
    have h3 : m1 119 3 = mem 119 3 := by rw [e1, zup_j (by omega)]
    rw [h3] at e2
    refine hQ m2 (fun c hc => ?_) ⟨?_, ?_⟩ ?_ (fun x hx => ?_) (fun _ i => ?_) (fun z => absurd z c)
    · funext j; rw [e2, zup_k (by omega), e1, zup_k (by omega)]
    · rw [e2, zup_j (by omega), e1, zup_j (by omega)]
    · rw [e2, zup_j (by omega), e1, zup_j (by omega)]
    · rw [e2, zup_j (by omega), e1, zup_e]
    · rw [e2, zup_e, (zB_put hx (by omega) (by omega)).1]
    · rw [e2, zup_k (by omega), e1, zup_k (by omega)]
  · have h2 : m3 119 2 = mem 119 2 := by rw [e3, zcp_k (by omega)]
    rw [h2, za (by omega)] at e4
    have h3 : m4 119 3 = mem 119 3 := by rw [e4, zup_j (by omega), e3, zcp_k (by omega)]
    rw [h3] at e5
    refine hQ m5 (fun c hc => ?_) ⟨?_, ?_⟩ ?_ (fun x hx => ?_) (fun z => absurd c z) (fun _ i hi => ?_)
    · funext j; rw [e5, zup_k (by omega), e4, zup_k (by omega), e3, zcp_k (by omega)]
    · rw [e5, zup_j (by omega), e4, zup_j (by omega), e3, zcp_k (by omega)]
    · rw [e5, zup_j (by omega), e4, zup_j (by omega), e3, zcp_k (by omega)]
    · rw [e5, zup_j (by omega), e4, zup_e]
    · rw [e5, zup_e, (zB_put hx (by omega) (by omega)).1]
    · rw [e5, zup_k (by omega), e4, zup_k (by omega), e3, zcp_e hi]
theorem c_Tr_follow {n : Nat} {s : Int} (hD : gDo g) (hn : n ≤ 6) (hs : zI s) (hsN : ∀ k, zB s k → (k : Int) < gN g) : ∀ (e : Nat) (d j v : Nat) (pl r t u : Int) (mem : zMem) (Q : Int → zMem → Prop), j + e = n → v < 16384 → pRep g pl r t u → (0 ≤ r ∧ r < 10) → (u = -4 ∨ (0 ≤ u ∧ u < gN g)) → Hs mem 2 g rm → mem 119 5 = n → mem 119 4 = s → (0 ≤ mem 119 2 ∧ mem 119 2 + 14 ^ e < 90000000) →
    (∀ m' : zMem, tPost g (fun k => zb s k) j e (fun F => cn g (fun k => zb s k) F e (fun k => v.testBit k) pl) (aWy g (fun k => zb s k) e (fun k => v.testBit k) pl) mem m' → Q 0 m') → zC (d + 2 * e + 2) K_Tr_follow [(2, Int.ofNat 119), (2, Int.ofNat 2), (0, (j : Int)), (0, r), (0, zn4 t), (0, zn4 u), (0, (v : Int))] mem Q := by
  generalize hS : (fun k => zb s k) = S
  have hSb : ∀ k, S k = true ↔ zB s k := fun k => by rw [← hS]; rfl
  have hNN := hD.1
  intro e
  induction e with
  | zero =>
    intro d j v pl r t u mem Q hj hv hp hr hu hH h5 h4 hfo hQ
    refine v_Tr_follow (c_Jd_bitCount (d := d) (by omega) ?_)
    rw [h5, zs (by omega), zpc_ct]
    have ect : zct (fun k => zB (v : Int) k) 14 = zct (fun k => v.testBit k = true) 14 := zct_cg 14 (fun k _ => by unfold zB; rw [zbn (by omega)])
    rw [ect]
    refine ⟨fun c1 => ?_, fun c1 => hQ mem ?_⟩
    · have hem : emB (fun k => v.testBit k) := emB_ct.mpr (by omega)
      have hcn : ∀ F, cn g S F 0 (fun k => v.testBit k) pl = F pl := fun F => by rw [cn_0, if_pos hem]
      have fin : zC (d + 1) K_Tr_note [(2, Int.ofNat 119), (0, r)] mem (fun _ m2 => Q 0 m2) := by
        refine c_Tr_note (d := d) hr (by omega) (fun m' g1 g2 g3 g4 g5 g6 => hQ m' ⟨fun c hc => g1 c (by omega), g2, ?_, fun x hx => ?_, fun i _ => by rw [g1 121 (by omega)], fun z i _ => g5 z i, fun z _ => ⟨fun i hi => g6 z i (by omega), fun i hi => by omega⟩⟩)
        · dsimp only
          rw [hcn, g3]; rfl
        · dsimp only
          rw [hcn, g4 x hx]
          unfold fRm
          rw [hp.2.1]
          constructor
          · rintro (q | q)
            · exact Or.inl q
            · right; rw [if_pos (by omega)]; omega
          · rintro (q | q)
            · exact Or.inl q
            · right
              by_cases e : r = (x : Int)
              · omega
              · rw [if_neg e] at q; omega
      exact ⟨fun _ => fin, fun c2 => by omega⟩
    · have hcn : ∀ F, cn g S F 0 (fun k => v.testBit k) pl = 0 := fun F => cn_few 0 _ _ (by omega)
      refine ⟨fun _ _ => rfl, ⟨rfl, rfl⟩, by dsimp only; rw [hcn, Int.add_zero], fun x _ => ?_, fun _ _ => rfl, fun _ _ _ => rfl, fun _ z => absurd (hcn one1) z⟩
      dsimp only
      rw [hcn]
      exact ⟨Or.inl, fun q => q.elim id (fun z => by omega)⟩
  | succ e ih =>
    intro d j v pl r t u mem Q hj hv hp hr hu hH h5 h4 hfo hQ
    have hpe : (14 : Int) ^ (e + 1) = 14 ^ e * 14 := Int.pow_succ 14 e
    have hpe1 := (pow6 (i := e) (by omega)).1
    rw [show d + 2 * (e + 1) + 2 = (d + 2 * e + 3) + 1 by omega]
    refine v_Tr_follow (c_Jd_bitCount (d := d + 2 * e + 2) (by omega) ?_)
    rw [h5, zs (by omega), zpc_ct]
    have ect : zct (fun k => zB (v : Int) k) 14 = zct (fun k => v.testBit k = true) 14 := zct_cg 14 (fun k _ => by unfold zB; rw [zbn (by omega)])
    rw [ect]
    refine ⟨fun c1 => ⟨fun c2 => by omega, fun c2 => ⟨fun c3 => ?_, fun c3 => by omega⟩⟩, fun c1 => hQ mem ?_⟩
    · -- door by door
      let term : (Int → Int) → Nat → Int := fun F k => @ite Int (S k = true ∧ pMay g pl k) (Classical.propDecidable _) (cn g S F e (rmB (fun k => v.testBit k) k) (pStep g pl k)) 0
      have htg : ∀ F, (∀ p, 0 ≤ F p) → ∀ k, 0 ≤ term F k := by
        intro F hF k
        show 0 ≤ @ite Int _ (Classical.propDecidable _) _ _
        split
        · exact cn_ge hF _ _ _
        · omega
      have htl : ∀ k, term one1 k ≤ 14 ^ e := by
        intro k
        show @ite Int _ (Classical.propDecidable _) _ _ ≤ _
        split
        · exact cn_le (fun _ => Int.le_refl _) hNN.2 _ _ _
        · omega
      have h1g : ∀ p, (0 : Int) ≤ one1 p := fun _ => by show (0 : Int) ≤ 1; omega
      have loop : ∀ (b i : Nat) (x2 : Int) (m : zMem), (i : Int) + b = gN g → zI x2 → (∀ k, k < 32 → (zB x2 k ↔ S k = true ∧ pMay g pl k)) → tPost g S j (e + 1) (fun F => zsum (term F) i) (aWy g S (e + 1) (fun k => v.testBit k) pl) mem m → zG (d + 2 * e + 3) M_Tr_branch 19 [(2, Int.ofNat 119), (2, Int.ofNat 2), (0, (j : Int)), (0, r), (0, zn4 t), (9, 0), (0, (v : Int)), (0, x2), (0, (i : Int))] [] m (fun _ m3 => Q 0 m3) := by
        intro b
        induction b with
        | zero =>
          intro i x2 m hi hx hxb hpo
          have hN2 : m 2 2 = gN g := by rw [hpo.1 2 (by omega)]; exact hH.2.2.1
          refine v_Tr_branch_19 ?_
          rw [hN2]
          refine ⟨fun _ => hQ m ?_, fun c => by omega⟩
          have : (fun F => cn g S F (e + 1) (fun k => v.testBit k) pl) = fun F => zsum (term F) i := by
            funext F
            rw [cn_s, show (gN g).toNat = i by omega]
          rw [this]
          exact hpo
        | succ b ih2 =>
          intro i x2 m hi hx hxb hpo
          obtain ⟨p1, p2, p3, p4, p5, p6, p7⟩ := id hpo
          have hN2 : m 2 2 = gN g := by rw [p1 2 (by omega)]; exact hH.2.2.1
          refine v_Tr_branch_19 ?_
          rw [hN2]
          refine ⟨fun c => by omega, fun c => ⟨fun c4 x1 e1 => ?_, fun c4 => ⟨by omega, fun m1 e1 => ?_⟩⟩⟩
          · rw [zB_test hx (by omega) (by omega), Int.toNat_natCast, hxb i (by omega)] at c4
            rw [za (by omega)] at e1
            rw [e1]
            refine ih2 (i + 1) x2 m (by omega) hx hxb ?_
            have e0 : ∀ F, term F i = 0 := fun F => if_neg c4
            have : (fun F => zsum (term F) (i + 1)) = fun F => zsum (term F) i := by funext F; rw [zsum_s, e0, Int.add_zero]
            rw [this]
            exact hpo
          · rw [zB_ne hx (by omega) (by omega), Int.toNat_natCast, hxb i (by omega)] at c4
            rw [Int.toNat_natCast] at e1
            have hH1 : Hs m1 2 g rm := hH.fr (fun k k1 k2 => by funext q; rw [e1, zup_k (by omega), p1 k (by omega)])
            have et : ∀ F, term F i = cn g S F e (rmB (fun k => v.testBit k) i) (pStep g pl i) := fun F => if_pos c4
            have hiN : (i : Int) < gN g := c4.2.1.1
            refine c_Ho_beyond (d := d + 2 * e + 1) (Or.inl rfl) hH1 hNN.2 (by omega) ?_
            rw [Int.toNat_natCast, za (by omega)]
            obtain ⟨v', v1, v2, v3⟩ := clr_n hv (k := i) (by omega)
            rw [v2]
            have hpr := hp.step hD hiN
            have hd := hD.2.2 i hiN
            have hr' : 0 ≤ gBy g i r ∧ gBy g i r < 10 := by unfold gBy; split <;> omega
            have hz : zn4 (i : Int) = i := by unfold zn4; rw [if_neg (by omega)]
            have hzs := zsum_ge (f := term one1) i (fun k _ => htg one1 h1g k)
            have hzl := zsum_c (f := term one1) (c := 14 ^ e) i (fun k _ => htl k)
            have hzl2 : (i : Int) * 14 ^ e ≤ 13 * 14 ^ e := Int.mul_le_mul_of_nonneg_right (by omega) (by omega)
            have p3' : m 119 2 = mem 119 2 + zsum (term one1) i := p3
            have f2 : m1 119 2 = m 119 2 := by rw [e1, zup_k (by omega)]
            have key := ih (d := d) (j + 1) v' (pStep g pl i) (gBy g i r) i t m1 (fun r3 m3 => ∀ x4 : Int, x4 = zadd i 1 → zG (d + 2 * e + 3) M_Tr_branch 19 [(2, Int.ofNat 119), (2, Int.ofNat 2), (0, (j : Int)), (0, r), (0, zn4 t), (9, 0), (0, (v : Int)), (0, x2), (0, x4)] [] m3 (fun _ m3 => Q 0 m3)) (by omega) v1 hpr hr' hp.tb hH1 (by rw [e1, zup_k (by omega), p2.2, h5]) (by rw [e1, zup_k (by omega), p2.1, h4]) (by rw [f2, p3']; omega) (fun m3 hpo3 x4 e4 => ?_)
            · rw [hz] at key
              exact key
            rw [za (by omega)] at e4
            rw [e4]
            rw [v3] at hpo3
            obtain ⟨q1, q2, q3, q4, q5, q6, q7⟩ := hpo3
            have q3 : m3 119 2 = m1 119 2 + cn g S one1 e (rmB (fun k => v.testBit k) i) (pStep g pl i) := q3
            have q4 : ∀ x : Nat, x < 32 → (zB (m3 119 3) x ↔ zB (m1 119 3) x ∨ 0 < cn g S (fRm g x) e (rmB (fun k => v.testBit k) i) (pStep g pl i)) := q4
            have p4 : ∀ x : Nat, x < 32 → (zB (m 119 3) x ↔ zB (mem 119 3) x ∨ 0 < zsum (term (fRm g x)) i) := p4
            refine ih2 (i + 1) x2 m3 (by omega) hx hxb ⟨fun c hc => ?_, ⟨?_, ?_⟩, ?_, fun x hx => ?_, fun y hy => ?_, fun z y hy => ?_, fun z hnz => ?_⟩
            · rw [q1 c hc]
              funext y
              rw [e1, zup_k (by omega), p1 c hc]
            · rw [q2.1, e1, zup_k (by omega), p2.1]
            · rw [q2.2, e1, zup_k (by omega), p2.2]
            · show m3 119 2 = mem 119 2 + zsum (term one1) (i + 1)
              rw [q3, f2, p3', zsum_s, et]
              omega
            · show zB (m3 119 3) x ↔ zB (mem 119 3) x ∨ 0 < zsum (term (fRm g x)) (i + 1)
              rw [q4 x hx, e1, zup_k (by omega), p4 x hx, zsum_s, et]
              have a1 := zsum_ge (f := term (fRm g x)) i (fun k _ => htg _ (fun p => (fRm_b x p).1) k)
              have a2 := cn_ge (g := g) (S := S) (F := fRm g x) (fun p => (fRm_b x p).1) e (rmB (fun k => v.testBit k) i) (pStep g pl i)
              constructor
              · rintro ((q | q) | q)
                · exact Or.inl q
                · right; have q' : 0 < zsum (term (fRm g x)) i := q; omega
                · right; omega
              · rintro (q | q)
                · exact Or.inl (Or.inl q)
                · by_cases y : 0 < zsum (term (fRm g x)) i
                  · exact Or.inl (Or.inr y)
                  · right; omega
            · rw [q5 y (by omega), e1, zup_j (by omega), p5 y hy]
            · rw [q6 (by rw [f2, p3']; omega) y hy, e1, zup_k (by omega), p6 z y hy]
            · have hnz' : zsum (term one1) (i + 1) ≠ 0 := hnz
              by_cases y0 : zsum (term one1) i = 0
              · have h119 : m1 119 2 = 0 := by rw [f2, p3', z, y0]; rfl
                have hne : cn g S one1 e (rmB (fun k => v.testBit k) i) (pStep g pl i) ≠ 0 := by
                  rw [zsum_s, y0, et] at hnz'
                  omega
                obtain ⟨b1, b2⟩ := q7 h119 hne
                have hfs : fsD g S e (fun k => v.testBit k) pl i := by
                  refine ⟨⟨c4.1, c4.2, hne⟩, fun k hk hbad => ?_⟩
                  have a1 := zsum_ge1 (f := term one1) i (fun k _ => htg one1 h1g k) hk
                  have a2 : term one1 k = cn g S one1 e (rmB (fun k => v.testBit k) k) (pStep g pl k) := if_pos ⟨hbad.1, hbad.2.1⟩
                  have a3 := htg one1 h1g k
                  rw [a2] at a1 a3
                  have := hbad.2.2
                  omega
                refine ⟨fun y hy => ?_, fun y hy => ?_⟩
                · rw [b1 y (by omega), e1, zup_j (by omega), p5 y hy]
                · cases y with
                  | zero =>
                    refine ⟨i, ?_, hfs⟩
                    rw [Nat.add_zero, b1 j (by omega), e1, zup_e]
                  | succ y =>
                    obtain ⟨k, k1, k2⟩ := b2 y (by omega)
                    refine ⟨k, ?_, i, hfs, k2⟩
                    rw [show j + (y + 1) = j + 1 + y by omega, k1]
              · obtain ⟨b1, b2⟩ := p7 z y0
                have hk : ∀ y, y < 6 → m3 120 y = m 120 y := fun y hy => by
                  rw [q6 (by rw [f2, p3', z]; omega) y hy, e1, zup_k (by omega)]
                refine ⟨fun y hy => by rw [hk y (by omega), b1 y hy], fun y hy => ?_⟩
                obtain ⟨k, k1, k2⟩ := b2 y hy
                exact ⟨k, by rw [hk _ (by omega), k1], k2⟩
      refine v_Tr_branch (c_Ho_choices (d := d + 2 * e + 1) (Or.inl rfl) hH hD hr (zn4_or hp.tb) (zn4_or hu) (fun w hwz hw x2 e2 => ?_))
      rw [h4] at e2
      refine loop (gN g).toNat 0 x2 mem (by omega) (e2 ▸ zand_I _ _) (fun k hk => ?_) ⟨fun _ _ => rfl, ⟨rfl, rfl⟩, (Int.add_zero _).symm, fun x hx => ⟨Or.inl, fun q => q.elim id (fun z => by have z' : (0 : Int) < 0 := z; omega)⟩, fun _ _ => rfl, fun _ _ _ => rfl, fun _ z => absurd rfl z⟩
      rw [e2, zB_and, hw k hk, hSb k, hp.may k]
      exact ⟨fun q => ⟨q.2, q.1⟩, fun q => ⟨q.2, q.1⟩⟩
    · have hcn : ∀ F, cn g S F (e + 1) (fun k => v.testBit k) pl = 0 := fun F => cn_few (e + 1) _ _ (by omega)
      refine ⟨fun _ _ => rfl, ⟨rfl, rfl⟩, by dsimp only; rw [hcn, Int.add_zero], fun x _ => ?_, fun _ _ => rfl, fun _ _ _ => rfl, fun _ z => absurd (hcn one1) z⟩
      dsimp only
      rw [hcn]
      exact ⟨Or.inl, fun q => q.elim id (fun z => by omega)⟩
end
