section
variable {d w : Nat} {mem m m' m2 : zMem} {Q : Int → zMem → Prop} {R S : zMem → Prop} {g g' : zPg} {b : zBf} {rm pl r t u p : Int} {k s : Nat}
/-! worst -/
noncomputable def wrS (g : zPg) (rm : Int) : Nat → Int × Int
  | 0 => (-4, -4)
  | k + 1 => if gX g k = 0 then (if (wrS g rm k).2 = -4 ∨ gPr (gWall g k 1) rm < (wrS g rm k).1 then (gPr (gWall g k 1) rm, (k : Int)) else wrS g rm k) else wrS g rm k
theorem wrS_lt : ∀ k : Nat, (wrS g rm k).2 = -4 ∨ (0 ≤ (wrS g rm k).2 ∧ (wrS g rm k).2 < k)
  | 0 => Or.inl rfl
  | k + 1 => by
    have ih := wrS_lt k
    have e : wrS g rm (k + 1) = if gX g k = 0 then (if (wrS g rm k).2 = -4 ∨ gPr (gWall g k 1) rm < (wrS g rm k).1 then (gPr (gWall g k 1) rm, (k : Int)) else wrS g rm k) else wrS g rm k := rfl
    rw [e]
    split
    · split
      · right
        show 0 ≤ (k : Int) ∧ (k : Int) < ((k + 1 : Nat) : Int)
        omega
      · omega
    · omega
theorem gWall_back (hx : gX g k = 0) : gWall (gWall g k 1) k 0 = g := by
  funext i
  unfold gWall
  by_cases q : i = 4 * k + 3
  · rw [if_pos q, q]; exact hx.symm
  · rw [if_neg q, if_neg q]
theorem gWall_rr {v : Int} (hk : k < 14) (hrr : ∀ k : Nat, (k : Int) < gN g → gA g k < rm ∧ gB g k < rm) : ∀ j : Nat, (j : Int) < gN (gWall g k v) → gA (gWall g k v) j < rm ∧ gB (gWall g k v) j < rm := by
  obtain ⟨e1, e2, e3⟩ := gWall_spec (g := g) (k := k) (v := v) hk
  intro j hj
  rw [e1] at hj
  rw [(e3 j).1, (e3 j).2.1]
  exact hrr j hj
theorem c_Bu_seekWorst (hD : gDo g) (hrr : ∀ k : Nat, (k : Int) < gN g → gA g k < rm ∧ gB g k < rm) (hrm : 0 < rm ∧ rm ≤ 10) (hH : Hs mem 2 g rm)
    (hQ : ∀ m' : zMem, Hs m' 2 g rm → m' 112 2 = (wrS g rm (gN g).toNat).2 → ((wrS g rm (gN g).toNat).2 ≠ -4 → m' 112 3 = (wrS g rm (gN g).toNat).1) → (∀ k, (k < 2 ∨ 7 < k) → k ≠ 112 → (k < 114 ∨ 117 < k) → m' k = mem k) → Q 0 m') : zC (d + 5) K_Bu_seekWorst [(2, Int.ofNat 112), (2, Int.ofNat 2)] mem Q := by
  have hn := hD.1
  have loop : ∀ (n i : Nat) (m : zMem), i + n = (gN g).toNat → Hs m 2 g rm → m 112 2 = (wrS g rm i).2 → ((wrS g rm i).2 ≠ -4 → m 112 3 = (wrS g rm i).1) → (∀ k, (k < 2 ∨ 7 < k) → k ≠ 112 → (k < 114 ∨ 117 < k) → m k = mem k) → zG (d + 5) M_Bu_seekWorst 8 [(2, Int.ofNat 112), (2, Int.ofNat 2), (0, (i : Int)), (9, 0)] [] m Q := by
    intro n
    induction n with
    | zero =>
      intro i m hi hH h2 h3 hf
      have e2 := hH.2.2.1
      refine v_Bu_seekWorst_8 ⟨fun c => ?_, fun c => by omega⟩
      rw [show i = (gN g).toNat by omega] at h2 h3
      exact hQ m hH h2 h3 hf
    | succ n ih =>
      intro i m hi hH h2 h3 hf
      have e2 := hH.2.2.1
      have hi14 : (i : Int) < gN g := by omega
      obtain ⟨-, -, -, -, dx⟩ := hD.2.2 i hi14
      have e : wrS g rm (i + 1) = if gX g i = 0 then (if (wrS g rm i).2 = -4 ∨ gPr (gWall g i 1) rm < (wrS g rm i).1 then (gPr (gWall g i 1) rm, (i : Int)) else wrS g rm i) else wrS g rm i := rfl
      refine v_Bu_seekWorst_8 ⟨fun c => by omega, fun c => c_Ho_isWalled (d := d + 3) (Or.inl rfl) hH hn.2 (k := (i : Int)) (by omega) (fun hw => ⟨fun q => absurd q (by decide), fun _ x10 f10 => ?_⟩) (fun hw => ⟨fun _ => ?_, fun q => absurd rfl q⟩)⟩
      · rw [Int.toNat_natCast] at hw
        rw [za (by omega)] at f10
        rw [f10]
        rw [if_neg (by omega)] at e
        exact ih (i + 1) m (by omega) hH (by rw [e]; exact h2) (by rw [e]; exact h3) hf
      · rw [Int.toNat_natCast] at hw
        have hx : gX g i = 0 := by omega
        rw [if_pos hx] at e
        refine c_Ho_setWalled (d := d + 3) (Or.inl rfl) hH hD (k := (i : Int)) (by omega) (Or.inr rfl) (fun m1 hH1 hf1 => ?_)
        rw [Int.toNat_natCast] at hH1
        have hD1 := gWall_Do (g := g) (k := i) (v := 1) hD (by omega) (Or.inr rfl)
        have eN1 : gN (gWall g i 1) = gN g := (gWall_spec (g := g) (k := i) (v := 1) (by omega)).1
        refine c_Bu_pairsOf (d := d) hD1 hH1 (gWall_rr (by omega) hrr) hrm (fun m2 hf2 => ?_)
        refine c_Ho_setWalled (d := d + 3) (Or.inl rfl) (hH1.fr (fun k k1 k2 => hf2 k (by omega))) hD1 (k := (i : Int)) (by rw [eN1]; omega) (Or.inl rfl) (fun m3 hH3 hf3 => ?_)
        rw [Int.toNat_natCast, gWall_back hx] at hH3
        have hfr : ∀ k, (k < 2 ∨ 7 < k) → (k < 114 ∨ 117 < k) → m3 k = m k := fun k k1 k2 => by rw [hf3 k (by omega), hf2 k (by omega), hf1 k (by omega)]
        have a2 : m3 112 2 = (wrS g rm i).2 := by rw [hfr 112 (by omega) (by omega)]; exact h2
        have a3 : (wrS g rm i).2 ≠ -4 → m3 112 3 = (wrS g rm i).1 := fun q => by rw [hfr 112 (by omega) (by omega)]; exact h3 q
        have put : ((wrS g rm i).2 = -4 ∨ gPr (gWall g i 1) rm < (wrS g rm i).1) → ∀ m5 : zMem, m5 = zup m3 112 3 (gPr (gWall g i 1) rm) → ∀ m6 : zMem, m6 = zup m5 112 2 (i : Int) → ∀ x5 : Int, x5 = zadd (i : Int) 1 → zG (d + 5) M_Bu_seekWorst 8 [(2, Int.ofNat 112), (2, Int.ofNat 2), (0, x5), (9, 0)] [] m6 Q := by
          intro hc m5 f5 m6 f6 x5 ex
          rw [za (by omega)] at ex
          rw [ex]
          rw [if_pos hc] at e
          refine ih (i + 1) m6 (by omega) (hH3.fr (fun k k1 k2 => by funext j; rw [f6, zup_k (by omega), f5, zup_k (by omega)])) (by rw [e, f6, zup_e]) (fun _ => by rw [e, f6, zup_j (by omega), f5, zup_e]) (fun k k1 k2 k3 => ?_)
          funext j
          rw [f6, zup_k k2, f5, zup_k k2, hfr k k1 k3, hf k k1 k2 k3]
        rw [a2]
        refine ⟨fun q => put (Or.inl q), fun q => ?_⟩
        rw [a3 q]
        refine ⟨fun z x6 e6 => ?_, fun z => put (Or.inr z)⟩
        rw [za (by omega)] at e6
        rw [e6]
        rw [if_neg (by omega)] at e
        exact ih (i + 1) m3 (by omega) hH3 (by rw [e]; exact a2) (by rw [e]; exact a3) (fun k k1 k2 k3 => by rw [hfr k k1 k3, hf k k1 k2 k3])
  refine v_Bu_seekWorst fun m1 e1 => loop (gN g).toNat 0 m1 (by omega) (hH.fr (fun k k1 k2 => by funext j; rw [e1, zup_k (by omega)])) (by rw [e1, zup_e]; rfl) (fun q => absurd rfl q) (fun k k1 k2 k3 => by funext j; rw [e1, zup_k k2])
theorem l_Mo_worst {x : Int} (hI : Ipal mem) (hQ : ∀ m' : zMem, fFr mem m' → Q (if (wrS (mem 123) (mem 122 1) (gN (mem 123)).toNat).2 = -4 ∨ x = 0 then (wrS (mem 123) (mem 122 1) (gN (mem 123)).toNat).2 else (wrS (mem 123) (mem 122 1) (gN (mem 123)).toNat).1) m') : ∀ (n i : Nat) (m : zMem), i + n = (gN (mem 123)).toNat → fFr mem m → zG (d + 6) M_Mo_worst 21 [(2, Int.ofNat 122), (0, x), (0, (wrS (mem 123) (mem 122 1) i).1), (0, (wrS (mem 123) (mem 122 1) i).2), (0, (i : Int)), (9, 0)] [] m Q := by
  obtain ⟨⟨w1, w2, w3, w4⟩, hP⟩ := id hI
  have hn := w1.1
  intro n
  induction n with
  | zero =>
    intro i m hi hf
    have e3 := hf.pg
    have e56 : m 123 56 = gN (mem 123) := by rw [e3]; rfl
    have hq := hQ m hf
    rw [show (gN (mem 123)).toNat = i by omega] at hq
    refine v_Mo_worst_21 (c_Mo_doorMany (d := d + 4) ⟨fun c => ⟨fun q => ?_, fun q => ⟨fun z => ?_, fun z => ?_⟩⟩, fun c => by omega⟩)
    · rw [if_pos (Or.inl q)] at hq; exact hq
    · rw [if_neg (by omega)] at hq; exact hq
    · rw [if_pos (Or.inr z)] at hq; exact hq
  | succ n ih =>
    intro i m hi hf
    have e3 := hf.pg
    have e56 : m 123 56 = gN (mem 123) := by rw [e3]; rfl
    have hi14 : (i : Int) < gN (mem 123) := by omega
    have e : wrS (mem 123) (mem 122 1) (i + 1) = if gX (mem 123) i = 0 then (if (wrS (mem 123) (mem 122 1) i).2 = -4 ∨ gPr (gWall (mem 123) i 1) (mem 122 1) < (wrS (mem 123) (mem 122 1) i).1 then (gPr (gWall (mem 123) i 1) (mem 122 1), (i : Int)) else wrS (mem 123) (mem 122 1) i) else wrS (mem 123) (mem 122 1) i := rfl
    have hlt := wrS_lt (g := mem 123) (rm := mem 122 1) i
    have nx : ∀ (m1 : zMem) (l2 l3 : Int), fFr mem m1 → l2 = (wrS (mem 123) (mem 122 1) (i + 1)).1 → l3 = (wrS (mem 123) (mem 122 1) (i + 1)).2 → zG (d + 6) M_Mo_worst 106 [(2, Int.ofNat 122), (0, x), (0, l2), (0, l3), (0, (i : Int)), (9, 0)] [] m1 Q := by
      intro m1 l2 l3 hf1 e2 e3
      refine v_Mo_worst_106 fun x1 f1 => ?_
      rw [za (by omega)] at f1
      rw [f1, e2, e3]
      exact ih (i + 1) m1 (by omega) hf1
    refine v_Mo_worst_21 (c_Mo_doorMany (d := d + 4) ⟨fun c => by omega, fun c => ?_⟩)
    rw [zm (x := 4) (by omega), za (x := 4 * (i : Int)) (by omega), show (4 * (i : Int) + 3).toNat = 4 * i + 3 by omega, e3]
    refine ⟨by omega, fun c2 => nx m _ _ hf ?_ ?_, fun c2 => ⟨by omega, fun m2 f2 => ?_⟩⟩
    · rw [e, if_neg (show ¬ gX (mem 123) i = 0 from c2)]
    · rw [e, if_neg (show ¬ gX (mem 123) i = 0 from c2)]
    · have hx : gX (mem 123) i = 0 := c2
      have g2 : m2 123 = gWall (mem 123) i 1 := by
        funext j
        rw [f2, zup_at]
        unfold gWall
        by_cases q : j = 4 * i + 3
        · rw [if_pos ⟨rfl, q⟩, if_pos q]
        · rw [if_neg (fun z => q z.2), if_neg q, e3]
      have r2 : ∀ j, m2 122 j = m 122 j := fun j => by rw [f2, zup_k (by omega)]
      have r1 : m2 122 1 = mem 122 1 := by rw [r2, hf.2 1 (by omega)]
      refine c_Mo_pairsNow (d := d) (by rw [g2]; exact gWall_Do w1 (by omega) (Or.inr rfl)) (by rw [g2, r1]; exact gWall_rr (by omega) w3) (by rw [r1]; exact w2) (fun m3 f3 => ⟨by omega, fun m4 f4 => ?_⟩)
      rw [g2, r1]
      have g4 : m4 123 = mem 123 := by
        have : m4 123 = gWall (gWall (mem 123) i 1) i 0 := by
          funext j
          rw [f4, zup_at, f3.pg, g2]
          rw [show gWall (gWall (mem 123) i 1) i 0 j = if j = 4 * i + 3 then 0 else gWall (mem 123) i 1 j from rfl]
          by_cases q : j = 4 * i + 3
          · rw [if_pos ⟨rfl, q⟩, if_pos q]
          · rw [if_neg (fun z => q z.2), if_neg q]
        rw [this, gWall_back hx]
      have hf4 : fFr mem m4 := by
        refine ⟨fun k k1 k2 => ?_, fun j hj => ?_⟩
        · by_cases q : k = 123
          · rw [q]; exact g4
          · have a1 : m4 k = m3 k := by funext j; rw [f4, zup_k q]
            have a2 : m2 k = m k := by funext j; rw [f2, zup_k q]
            rw [a1, f3.1 k k1 k2, a2, hf.1 k k1 k2]
        · rw [f4, zup_k (by omega), f3.2 j hj, r2, hf.2 j hj]
      rw [if_pos hx] at e
      refine ⟨fun q => ⟨fun z => absurd rfl z, fun _ => nx m4 _ _ hf4 ?_ ?_⟩, fun q => ⟨fun z => ⟨fun y => nx m4 _ _ hf4 ?_ ?_, fun y => by omega⟩, fun z => ⟨fun y => absurd rfl y, fun _ => nx m4 _ _ hf4 ?_ ?_⟩⟩⟩
      · rw [e, if_pos (Or.inl q)]
      · rw [e, if_pos (Or.inl q)]
      · rw [e, if_neg (by omega)]
      · rw [e, if_neg (by omega)]
      · rw [e, if_pos (Or.inr z)]
      · rw [e, if_pos (Or.inr z)]
theorem T_worst {a : Int} (hI : Inv mem) (hR : ∀ m', Inv m' → R m') : zC (d + 7) K_Od_worst [(2, Int.ofNat 0), (0, a)] mem (fun r1 m1 => zC (d + 7) K_Mo_worst [(2, Int.ofNat 122), (0, a)] m1 (fun r2 m2 => (r1 = r2 → R m2) ∧ (r1 ≠ r2 → S m2))) := by
  obtain ⟨⟨w1, w2, w3, w4⟩, hP⟩ := id hI.1
  have hn := w1.1
  have same : ∀ x : Int, (x = x → R mem) ∧ (x ≠ x → S mem) := fun x => ⟨fun _ => hR mem hI, fun q => absurd rfl q⟩
  have bad : ¬ (0 ≤ a ∧ a ≤ 1) → zC (d + 7) K_Mo_worst [(2, Int.ofNat 122), (0, a)] mem (fun r2 m2 => (-1 = r2 → R m2) ∧ (-1 ≠ r2 → S m2)) := fun h => v_Mo_worst (c_Mo_in (d := d + 5) (fun q => absurd q h) (fun _ => ⟨fun q => absurd rfl q, fun _ => same _⟩))
  refine v_Od_worst ⟨fun c => bad (by omega), fun c => ⟨fun c1 => ?_, fun c1 => bad (by omega)⟩⟩
  refine c_Bu_seekWorst (d := d + 1) w1 w3 w2 hP.1 (fun m1 hH1 y2 y3 hf1 => v_Bu_answer ?_)
  have e3 : m1 123 = mem 123 := hf1 123 (by omega) (by omega) (by omega)
  have e22 : m1 122 = mem 122 := hf1 122 (by omega) (by omega) (by omega)
  have hI1 : Ipal m1 := by
    have hI0 := hI.1
    unfold Ipal at hI0 ⊢
    rw [e3, e22]
    refine ⟨hI0.1, hH1, ?_, fun i hi => ?_, ?_, fun i hi => ?_⟩
    · rw [hf1 1 (by omega) (by omega) (by omega)]; exact hP.2.1
    · have hi5 : (i : Int) < 5 := by have := w4.1.2; omega
      have := hP.2.2.1 i hi
      unfold Ws at this ⊢
      rw [hf1 (1 + 8 + i) (by omega) (by omega) (by omega)]
      exact this
    · rw [hf1 1 (by omega) (by omega) (by omega)]; exact hP.2.2.2.1
    · rw [hf1 (1 + 13) (by omega) (by omega) (by omega)]; exact hP.2.2.2.2 i hi
  have hIn1 : Inv m1 := hI.fr hI1 (hf1 0 (by omega) (by omega) (by omega)) (fun j _ => by rw [e22]) (fun i _ => by rw [e3]) (fun k k1 k2 => hf1 k (by omega) (by omega) (by omega)) (fun k k1 k2 => hf1 k (by omega) (by omega) (by omega)) (fun k k1 k2 => hf1 k (by omega) (by omega) (by omega))
  have ref : ∀ v : Int, v = (if (wrS (mem 123) (mem 122 1) (gN (mem 123)).toNat).2 = -4 ∨ a = 0 then (wrS (mem 123) (mem 122 1) (gN (mem 123)).toNat).2 else (wrS (mem 123) (mem 122 1) (gN (mem 123)).toNat).1) → zC (d + 7) K_Mo_worst [(2, Int.ofNat 122), (0, a)] m1 (fun r2 m2 => (v = r2 → R m2) ∧ (v ≠ r2 → S m2)) := by
    intro v hv
    refine v_Mo_worst (c_Mo_in (d := d + 5) (fun _ => ⟨fun _ => ?_, fun q => absurd q (by decide)⟩) (fun q => absurd ⟨c, c1⟩ q))
    refine l_Mo_worst (d := d + 1) (mem := m1) (x := a) (Q := fun r2 m2 => (v = r2 → R m2) ∧ (v ≠ r2 → S m2)) hI1 (fun m2 hf2 => ?_) (gN (m1 123)).toNat 0 m1 (by omega) fFr.refl
    rw [e3, e22]
    exact ⟨fun _ => hR m2 (hIn1.sc hf2.sc), fun q => absurd hv q⟩
  rw [y2]
  refine ⟨fun q => ⟨fun z => ?_, fun z => ref _ ?_⟩, fun q => ref _ ?_⟩
  · rw [y3 q]
    refine ref _ ?_
    rw [if_neg (by omega)]
  · rw [if_pos (Or.inr z)]
  · rw [if_pos (Or.inl q), q]
end
