section
variable {d w : Nat} {mem m m' m2 : zMem} {Q : Int → zMem → Prop} {R S : zMem → Prop} {g g' : zPg} {b : zBf} {rm pl r t u p : Int} {k s : Nat}
/-- pages whose doors are the same, as far as there are any -/
def gQ (g g' : zPg) : Prop := gN g' = gN g ∧ gL g' = gL g ∧ ∀ k : Nat, (k : Int) < gN g → gA g' k = gA g k ∧ gB g' k = gB g k ∧ gC g' k = gC g k ∧ gX g' k = gX g k
theorem Hs.gQ {x : Nat} (h : gQ g g') (hH : Hs mem x g rm) : Hs mem x g' rm := by
  obtain ⟨h0, h1, h2, h3, h4, h5, h6⟩ := hH
  obtain ⟨e1, e2, e3⟩ := h
  refine ⟨h0, by rw [e2]; exact h1, by rw [e1]; exact h2, fun k hk => ?_, fun k hk => ?_, fun r hr k hk => ?_, fun c hc k hk => ?_⟩
  · rw [h3 k hk, e1]
    by_cases q : (k : Int) < gN g
    · rw [(e3 k q).2.2.2]
    · exact ⟨fun z => absurd z.1 q, fun z => absurd z.1 q⟩
  · rw [e1] at hk
    obtain ⟨a1, a2, a3, a4⟩ := e3 k hk
    rw [a1, a2, a3]
    exact h4 k hk
  · rw [h5 r hr k hk]
    unfold gO
    rw [e1]
    by_cases q : (k : Int) < gN g
    · obtain ⟨a1, a2, a3, a4⟩ := e3 k q
      rw [a1, a2, a4]
    · exact ⟨fun z => absurd z.1 q, fun z => absurd z.1 q⟩
  · rw [h6 c hc k hk, e1]
    by_cases q : (k : Int) < gN g
    · rw [(e3 k q).2.2.1]
    · exact ⟨fun z => absurd z.1 q, fun z => absurd z.1 q⟩
/-- near: but for the place of the next door -/
def gNe (g g' : zPg) : Prop := ∀ i, ¬ (4 * (gN g).toNat ≤ i ∧ i < 4 * (gN g).toNat + 4) → g' i = g i
theorem gNe.refl : gNe g g := fun _ _ => rfl
theorem gNe.q (h : gNe g g') (hN : 0 ≤ gN g ∧ gN g < 14) : gQ g g' := by
  refine ⟨h 56 (by omega), h 73 (by omega), fun k hk => ⟨h _ (by omega), h _ (by omega), h _ (by omega), h _ (by omega)⟩⟩
theorem gNe.add (h : gNe g g') (hN : 0 ≤ gN g ∧ gN g < 14) {a c e : Int} : gAdd g' a c e = gAdd g a c e := by
  have e1 : gN g' = gN g := (h.q hN).1
  funext i
  unfold gAdd
  rw [e1]
  by_cases c1 : i = 4 * (gN g).toNat
  · rw [if_pos c1, if_pos c1]
  · rw [if_neg c1, if_neg c1]
    by_cases c2 : i = 4 * (gN g).toNat + 1
    · rw [if_pos c2, if_pos c2]
    · rw [if_neg c2, if_neg c2]
      by_cases c3 : i = 4 * (gN g).toNat + 2
      · rw [if_pos c3, if_pos c3]
      · rw [if_neg c3, if_neg c3]
        by_cases c4 : i = 4 * (gN g).toNat + 3
        · rw [if_pos c4, if_pos c4]
        · rw [if_neg c4, if_neg c4, h i (by omega)]
theorem gNe.pop (hN : 0 ≤ gN g ∧ gN g < 14) {a c e : Int} : gNe g (gPop (gAdd g a c e)) := by
  obtain ⟨e1, -⟩ := gAdd_at (g := g) (a := a) (b := c) (c := e) hN
  intro i hi
  unfold gPop
  by_cases q : i = 56
  · rw [if_pos q, e1, q]
    show gN g + 1 - 1 = gN g
    omega
  · rw [if_neg q]
    unfold gAdd
    rw [if_neg (by omega), if_neg (by omega), if_neg (by omega), if_neg (by omega), if_neg q]
theorem gAdd_rr {a c e : Int} (hN : 0 ≤ gN g ∧ gN g < 14) (hrr : ∀ k : Nat, (k : Int) < gN g → gA g k < rm ∧ gB g k < rm) (ha : a < rm) (hc : c < rm) : ∀ k : Nat, (k : Int) < gN (gAdd g a c e) → gA (gAdd g a c e) k < rm ∧ gB (gAdd g a c e) k < rm := by
  obtain ⟨e1, -, e3, n1, n2, -⟩ := gAdd_at (g := g) (a := a) (b := c) (c := e) hN
  intro k hk
  rw [e1] at hk
  by_cases q : (k : Int) < gN g
  · obtain ⟨a1, a2, -⟩ := e3 k q
    rw [a1, a2]
    exact hrr k q
  · rw [show k = (gN g).toNat by omega, n1, n2]
    exact ⟨ha, hc⟩
/-- the palace stands where only the place of a door that there is not has changed -/
theorem Ipal.near (hI : Ipal mem) (hN : gN (mem 123) < 14) (hH : Hs m' 2 (mem 123) (mem 122 1)) (h1 : m' 1 = mem 1) (h8 : ∀ k, 8 ≤ k → k ≤ 14 → m' k = mem k) (hg : gNe (mem 123) (m' 123)) (hr : m' 122 1 = mem 122 1) : Ipal m' := by
  obtain ⟨⟨w1, w2, w3, w4, w5, w6, w7⟩, p1, p2, p3, p4, p5⟩ := hI
  have hn := w1.1
  obtain ⟨q1, q2, q3⟩ := hg.q ⟨hn.1, hN⟩
  have eP : gP (m' 123) = gP (mem 123) := hg 72 (by omega)
  have eW : gW (m' 123) = gW (mem 123) := hg 86 (by omega)
  unfold Ipal
  rw [hr]
  refine ⟨⟨⟨by rw [q1]; exact hn, by rw [q2]; exact w1.2.1, fun k hk => ?_⟩, w2, fun k hk => ?_, by rw [eP]; exact w4, fun i hi => ?_, by rw [eW]; exact w6, fun i hi => ?_⟩, hH.gQ (hg.q ⟨hn.1, hN⟩), by rw [h1, eP]; exact p2, fun i hi => ?_, by rw [h1, eW]; exact p4, fun i hi => ?_⟩
  · rw [q1] at hk
    obtain ⟨a1, a2, a3, a4⟩ := q3 k hk
    rw [a1, a2, a3, a4]
    exact w1.2.2 k hk
  · rw [q1] at hk
    obtain ⟨a1, a2, a3, a4⟩ := q3 k hk
    rw [a1, a2]
    exact w3 k hk
  · rw [eP] at hi
    have a1 : gR (m' 123) i = gR (mem 123) i := hg _ (by omega)
    have a2 : gT (m' 123) i = gT (mem 123) i := hg _ (by omega)
    have a3 : gU (m' 123) i = gU (mem 123) i := hg _ (by omega)
    obtain ⟨b1, b2, b3, b4⟩ := w5 i hi
    unfold gWk
    rw [a1, a2, a3, q1]
    refine ⟨b1, ?_, b3, b4⟩
    rcases b2 with b2 | ⟨b2, b2', b2''⟩
    · exact Or.inl b2
    · obtain ⟨c1, c2, -, -⟩ := q3 (gT (mem 123) i).toNat (by omega)
      rw [c1, c2]
      exact Or.inr ⟨b2, b2', b2''⟩
  · rw [eW] at hi
    rw [hg (74 + i) (by omega), q1]
    exact w7 i hi
  · rw [eP] at hi
    have a1 : gR (m' 123) i = gR (mem 123) i := hg _ (by omega)
    have a2 : gT (m' 123) i = gT (mem 123) i := hg _ (by omega)
    have a3 : gU (m' 123) i = gU (mem 123) i := hg _ (by omega)
    have := p3 i hi
    unfold Ws at this ⊢
    rw [a1, a2, a3, h8 (1 + 8 + i) (by omega) (by omega)]
    exact this
  · rw [eW] at hi
    rw [h8 (1 + 13) (by omega) (by omega), hg (74 + i) (by omega)]
    exact p5 i hi
/-! more -/
noncomputable def mrS (g : zPg) (rm : Int) (st : Int × Int) (a c : Nat) : Int × Int := if st.1 < gPr (gAdd g a c 0) rm then (gPr (gAdd g a c 0) rm, 10 * (a : Int) + c) else st
noncomputable def mrB (g : zPg) (rm : Int) (a : Nat) : Nat → Int × Int → Int × Int
  | 0, st => st
  | c + 1, st => if a < c then mrS g rm (mrB g rm a c st) a c else mrB g rm a c st
noncomputable def mrA (g : zPg) (rm : Int) : Nat → Int × Int
  | 0 => (gPr g rm, -4)
  | a + 1 => mrB g rm a rm.toNat (mrA g rm a)
theorem mrB_lo {a : Nat} {st : Int × Int} : ∀ c, c ≤ a + 1 → mrB g rm a c st = st
  | 0, _ => rfl
  | c + 1, h => by
    show (if a < c then _ else _) = _
    rw [if_neg (by omega), mrB_lo c (by omega)]
theorem mrB_s {a c : Nat} {st : Int × Int} (h : a < c) : mrB g rm a (c + 1) st = mrS g rm (mrB g rm a c st) a c := by
  show (if a < c then _ else _) = _
  rw [if_pos h]
/-- the class's Builders -/
theorem c_Bu_tryMore (hD : gDo g) (hN : gN g < 14) (hrr : ∀ k : Nat, (k : Int) < gN g → gA g k < rm ∧ gB g k < rm) (hrm : 0 < rm ∧ rm ≤ 10) (hH : Hs mem 2 g rm) {a c : Nat} (hac : a < c) (hc : (c : Int) < rm) {st : Int × Int} (h3 : mem 112 3 = st.1) (h2 : mem 112 2 = st.2)
    (hQ : ∀ m' : zMem, Hs m' 2 g rm → m' 112 3 = (mrS g rm st a c).1 → m' 112 2 = (mrS g rm st a c).2 → (∀ k, (k < 2 ∨ 7 < k) → k ≠ 112 → (k < 114 ∨ 117 < k) → m' k = mem k) → Q 0 m') : zC (d + 5) K_Bu_tryMore [(2, Int.ofNat 112), (2, Int.ofNat 2), (0, (a : Int)), (0, (c : Int))] mem Q := by
  have hn := hD.1
  refine v_Bu_tryMore (c_Ho_add (d := d + 3) (Or.inl rfl) hH hD (by omega) (by omega) (by omega) (by omega) (fun q => by omega) (fun _ m1 hH1 hf1 => ⟨fun _ => ?_, fun q => absurd q (by decide)⟩))
  have hD1 := gAdd_Do (g := g) (a := (a : Int)) (b := (c : Int)) (c := 0) hD hN (by omega) (by omega) (by omega) (by omega)
  obtain ⟨e1, -, -, n1, n2, n3, n4⟩ := gAdd_at (g := g) (a := (a : Int)) (b := (c : Int)) (c := 0) ⟨hn.1, hN⟩
  refine c_Bu_pairsOf (d := d) hD1 hH1 (gAdd_rr ⟨hn.1, hN⟩ hrr (by omega) hc) hrm (fun m2 hf2 => ?_)
  refine c_Ho_dropLatest (d := d + 3) (Or.inl rfl) (hH1.fr (fun k k1 k2 => hf2 k (by omega))) hD1 (by omega) (by rw [e1, show (gN g + 1 - 1).toNat = (gN g).toNat by omega]; exact n4) (fun m3 hH3 hf3 => ?_)
  have hH3' : Hs m3 2 g rm := hH3.gQ (by
    obtain ⟨q1, q2, q3⟩ := (gNe.pop (g := g) (a := (a : Int)) (c := (c : Int)) (e := 0) ⟨hn.1, hN⟩).q ⟨hn.1, hN⟩
    refine ⟨q1.symm, q2.symm, fun k hk => ?_⟩
    obtain ⟨a1, a2, a3, a4⟩ := q3 k (by rw [← q1]; exact hk)
    exact ⟨a1.symm, a2.symm, a3.symm, a4.symm⟩)
  have hfr : ∀ k, (k < 2 ∨ 7 < k) → (k < 114 ∨ 117 < k) → m3 k = mem k := fun k k1 k2 => by rw [hf3 k (by omega), hf2 k (by omega), hf1 k (by omega)]
  have e3 : m3 112 3 = st.1 := by rw [hfr 112 (by omega) (by omega)]; exact h3
  have e2 : m3 112 2 = st.2 := by rw [hfr 112 (by omega) (by omega)]; exact h2
  rw [e3]
  refine ⟨fun q => hQ m3 hH3' ?_ ?_ (fun k k1 k2 k3 => hfr k k1 k3), fun q m4 f4 m5 f5 => hQ m5 (hH3'.fr (fun k k1 k2 => ?_)) ?_ ?_ (fun k k1 k2 k3 => ?_)⟩
  · unfold mrS; rw [if_neg (by omega)]; exact e3
  · unfold mrS; rw [if_neg (by omega)]; exact e2
  · funext j; rw [f5, zup_k (by omega), f4, zup_k (by omega)]
  · unfold mrS; rw [if_pos q, f5, zup_j (by omega), f4, zup_e]
  · unfold mrS; rw [if_pos q, f5, zup_e, zm (by omega), za (by omega)]
  · funext j; rw [f5, zup_k k2, f4, zup_k k2, hfr k k1 k3]
theorem c_Bu_seekMore (hD : gDo g) (hN : gN g < 14) (hrr : ∀ k : Nat, (k : Int) < gN g → gA g k < rm ∧ gB g k < rm) (hrm : 0 < rm ∧ rm ≤ 10) (hH : Hs mem 2 g rm)
    (hQ : ∀ m' : zMem, Hs m' 2 g rm → m' 112 3 = (mrA g rm rm.toNat).1 → m' 112 2 = (mrA g rm rm.toNat).2 → (∀ k, (k < 2 ∨ 7 < k) → k ≠ 112 → (k < 114 ∨ 117 < k) → m' k = mem k) → Q 0 m') : zC (d + 6) K_Bu_seekMore [(2, Int.ofNat 112), (2, Int.ofNat 2)] mem Q := by
  have outer : ∀ (n a : Nat) (m : zMem), a + n = rm.toNat → Hs m 2 g rm → m 112 3 = (mrA g rm a).1 → m 112 2 = (mrA g rm a).2 → (∀ k, (k < 2 ∨ 7 < k) → k ≠ 112 → (k < 114 ∨ 117 < k) → m k = mem k) → zG (d + 6) M_Bu_seekMore 17 [(2, Int.ofNat 112), (2, Int.ofNat 2), (0, (a : Int)), (9, 0)] [] m Q := by
    intro n
    induction n with
    | zero =>
      intro a m ha hH h3 h2 hf
      have := hH.1
      refine v_Bu_seekMore_17 ⟨fun c => ?_, fun c => by omega⟩
      rw [show a = rm.toNat by omega] at h3 h2
      exact hQ m hH h3 h2 hf
    | succ n ih =>
      intro a m ha hH h3 h2 hf
      have h0 := hH.1
      refine v_Bu_seekMore_17 ⟨fun c => by omega, fun c x1 e1 => ?_⟩
      rw [za (by omega)] at e1
      have inner : ∀ (n2 c : Nat) (m1 : zMem), c + n2 = rm.toNat → a < c → Hs m1 2 g rm → m1 112 3 = (mrB g rm a c (mrA g rm a)).1 → m1 112 2 = (mrB g rm a c (mrA g rm a)).2 → (∀ k, (k < 2 ∨ 7 < k) → k ≠ 112 → (k < 114 ∨ 117 < k) → m1 k = mem k) → zG (d + 6) M_Bu_seekMore 29 [(2, Int.ofNat 112), (2, Int.ofNat 2), (0, (a : Int)), (0, (c : Int))] [] m1 Q := by
        intro n2
        induction n2 with
        | zero =>
          intro c m1 hc hac hH1 g3 g2 hf1
          have h01 := hH1.1
          refine v_Bu_seekMore_29 ⟨fun c2 x1 e1 => ?_, fun c2 => by omega⟩
          rw [za (by omega)] at e1
          rw [e1]
          rw [show c = rm.toNat by omega] at g3 g2
          exact ih (a + 1) m1 (by omega) hH1 g3 g2 hf1
        | succ n2 ih2 =>
          intro c m1 hc hac hH1 g3 g2 hf1
          have h01 := hH1.1
          refine v_Bu_seekMore_29 ⟨fun c2 => by omega, fun c2 => c_Bu_tryMore (d := d) hD hN hrr hrm hH1 hac (by omega) g3 g2 (fun m2 hH2 y3 y2 hf2 x3 e3 => ?_)⟩
          rw [za (by omega)] at e3
          rw [e3]
          rw [← mrB_s hac] at y3 y2
          exact ih2 (c + 1) m2 (by omega) (by omega) hH2 y3 y2 (fun k k1 k2 k3 => by rw [hf2 k k1 k2 k3, hf1 k k1 k2 k3])
      rw [e1]
      exact inner (rm.toNat - (a + 1)) (a + 1) m (by omega) (by omega) hH (by rw [mrB_lo _ (by omega)]; exact h3) (by rw [mrB_lo _ (by omega)]; exact h2) hf
  refine v_Bu_seekMore fun m1 e1 => c_Bu_pairsOf (d := d + 1) hD (hH.fr (fun k k1 k2 => by funext j; rw [e1, zup_k (by omega)])) hrr hrm (fun m2 hf2 m3 e3 => ?_)
  refine outer rm.toNat 0 m3 (by omega) (hH.fr (fun k k1 k2 => by funext j; rw [e3, zup_k (by omega), hf2 k (by omega), e1, zup_k (by omega)])) ?_ ?_ (fun k k1 k2 k3 => ?_)
  · rw [e3, zup_e]; rfl
  · rw [e3, zup_j (by omega), hf2 112 (by omega), e1, zup_e]; rfl
  · funext j; rw [e3, zup_k k2, hf2 k (by omega), e1, zup_k k2]
/-- the reference -/
theorem l_Mo_more {x : Int} (hI : Ipal mem) (hN : gN (mem 123) < 14) (hQ : ∀ m' : zMem, gNe (mem 123) (m' 123) → (∀ k, k ≠ 122 → k ≠ 123 → (k < 128 ∨ 131 < k) → m' k = mem k) → (∀ j, j ≠ 24 → m' 122 j = mem 122 j) → Q (if (mrA (mem 123) (mem 122 1) (mem 122 1).toNat).2 = -4 ∨ x = 0 then (mrA (mem 123) (mem 122 1) (mem 122 1).toNat).2 else (mrA (mem 123) (mem 122 1) (mem 122 1).toNat).1) m') : ∀ (n a : Nat) (m : zMem), a + n = (mem 122 1).toNat → gNe (mem 123) (m 123) → (∀ k, k ≠ 122 → k ≠ 123 → (k < 128 ∨ 131 < k) → m k = mem k) → (∀ j, j ≠ 24 → m 122 j = mem 122 j) → zG (d + 6) M_Mo_more 35 [(2, Int.ofNat 122), (0, x), (0, (mrA (mem 123) (mem 122 1) a).1), (0, (mrA (mem 123) (mem 122 1) a).2), (0, (a : Int)), (9, 0), (9, 0)] [] m Q := by
  obtain ⟨⟨w1, w2, w3, w4⟩, hP⟩ := id hI
  have hn := w1.1
  intro n
  induction n with
  | zero =>
    intro a m ha hg hf hr
    have e1 : m 122 1 = mem 122 1 := hr 1 (by omega)
    have hq := hQ m hg hf hr
    rw [show (mem 122 1).toNat = a by omega] at hq
    refine v_Mo_more_35 ⟨fun c => ⟨fun q => ?_, fun q => ⟨fun z => ?_, fun z => ?_⟩⟩, fun c => by omega⟩
    · rw [if_pos (Or.inl q)] at hq; exact hq
    · rw [if_neg (by omega)] at hq; exact hq
    · rw [if_pos (Or.inr z)] at hq; exact hq
  | succ n ih =>
    intro a m ha hg hf hr
    have e1 : m 122 1 = mem 122 1 := hr 1 (by omega)
    refine v_Mo_more_35 ⟨fun c => by omega, fun c x3 e3 => ?_⟩
    rw [za (by omega)] at e3
    have inner : ∀ (n2 c : Nat) (m1 : zMem), c + n2 = (mem 122 1).toNat → a < c → gNe (mem 123) (m1 123) → (∀ k, k ≠ 122 → k ≠ 123 → (k < 128 ∨ 131 < k) → m1 k = mem k) → (∀ j, j ≠ 24 → m1 122 j = mem 122 j) → zG (d + 6) M_Mo_more 50 [(2, Int.ofNat 122), (0, x), (0, (mrB (mem 123) (mem 122 1) a c (mrA (mem 123) (mem 122 1) a)).1), (0, (mrB (mem 123) (mem 122 1) a c (mrA (mem 123) (mem 122 1) a)).2), (0, (a : Int)), (0, (c : Int)), (9, 0)] [] m1 Q := by
      intro n2
      induction n2 with
      | zero =>
        intro c m1 hc hac hg1 hf1 hr1
        have e1 : m1 122 1 = mem 122 1 := hr1 1 (by omega)
        refine v_Mo_more_50 ⟨fun c2 x1 f1 => ?_, fun c2 => by omega⟩
        rw [za (by omega)] at f1
        rw [f1]
        have := ih (a + 1) m1 (by omega) hg1 hf1 hr1
        have e : mrA (mem 123) (mem 122 1) (a + 1) = mrB (mem 123) (mem 122 1) a c (mrA (mem 123) (mem 122 1) a) := by
          rw [show c = (mem 122 1).toNat by omega]; rfl
        rw [e] at this
        exact this
      | succ n2 ih2 =>
        intro c m1 hc hac hg1 hf1 hr1
        have e1 : m1 122 1 = mem 122 1 := hr1 1 (by omega)
        have eN1 : gN (m1 123) = gN (mem 123) := (hg1.q ⟨hn.1, hN⟩).1
        refine v_Mo_more_50 ⟨fun c2 => by omega, fun c2 => ?_⟩
        refine c_Mo_addDoor (d := d + 3) (by rw [eN1]; exact ⟨hn.1, hN⟩) (fun m2 g2 f2 => ?_)
        rw [hg1.add ⟨hn.1, hN⟩] at g2
        have e21 : m2 122 1 = mem 122 1 := by rw [f2 122 (by omega)]; exact e1
        refine c_Mo_pairsNow (d := d) (by rw [g2]; exact gAdd_Do w1 hN (by omega) (by omega) (by omega) (by omega)) (by rw [g2, e21]; exact gAdd_rr ⟨hn.1, hN⟩ w3 (by omega) (by omega)) (by rw [e21]; exact w2) (fun m3 f3 m4 f4 => ?_)
        rw [g2, e21]
        have e356 : m3 123 56 = gN (mem 123) + 1 := by
          rw [f3.pg, g2]
          exact (gAdd_at (g := mem 123) (a := (a : Int)) (b := (c : Int)) (c := 0) ⟨hn.1, hN⟩).1
        rw [e356, zs (by omega)] at f4
        have g4 : gNe (mem 123) (m4 123) := by
          intro i hi
          rw [f4, zup_at]
          by_cases q : i = 56
          · rw [if_pos ⟨rfl, q⟩, q]
            show gN (mem 123) + 1 - 1 = gN (mem 123)
            omega
          · rw [if_neg (fun z => q z.2), f3.pg, g2]
            unfold gAdd
            rw [if_neg (by omega), if_neg (by omega), if_neg (by omega), if_neg (by omega), if_neg q]
        have hf4 : ∀ k, k ≠ 122 → k ≠ 123 → (k < 128 ∨ 131 < k) → m4 k = mem k := fun k k1 k2 k3 => by
          have : m4 k = m3 k := by funext j; rw [f4, zup_k k2]
          rw [this, f3.1 k k1 k3, f2 k k2, hf1 k k1 k2 k3]
        have hr4 : ∀ j, j ≠ 24 → m4 122 j = mem 122 j := fun j hj => by rw [f4, zup_k (by omega), f3.2 j hj, f2 122 (by omega), hr1 j hj]
        have nx := ih2 (c + 1) m4 (by omega) (by omega) g4 hf4 hr4
        rw [mrB_s hac] at nx
        unfold mrS at nx
        refine ⟨fun q => ⟨fun _ x4 e4 => ?_, fun z => by omega⟩, fun q x7 e7 => ⟨fun z => by omega, fun _ x9 e9 => ?_⟩⟩
        · rw [if_neg (by omega)] at nx
          rw [za (by omega)] at e4
          rw [e4]
          exact nx
        · rw [if_pos q] at nx
          rw [zm (by omega), za (by omega)] at e7
          rw [za (by omega)] at e9
          rw [e7, e9]
          exact nx
    rw [e3]
    have := inner ((mem 122 1).toNat - (a + 1)) (a + 1) m (by omega) (by omega) hg hf hr
    rw [mrB_lo _ (by omega)] at this
    exact this
theorem T_more {a : Int} (hI : Inv mem) (hR : ∀ m', Inv m' → R m') : zC (d + 7) K_Od_more [(2, Int.ofNat 0), (0, a)] mem (fun r1 m1 => zC (d + 7) K_Mo_more [(2, Int.ofNat 122), (0, a)] m1 (fun r2 m2 => (r1 = r2 → R m2) ∧ (r1 ≠ r2 → S m2))) := by
  obtain ⟨⟨w1, w2, w3, w4⟩, hP⟩ := id hI.1
  have hn := w1.1
  have h2 : mem 2 2 = gN (mem 123) := hP.1.2.2.1
  have same : ∀ x : Int, (x = x → R mem) ∧ (x ≠ x → S mem) := fun x => ⟨fun _ => hR mem hI, fun q => absurd rfl q⟩
  have bad : ¬ (0 ≤ a ∧ a ≤ 1) → zC (d + 7) K_Mo_more [(2, Int.ofNat 122), (0, a)] mem (fun r2 m2 => (-1 = r2 → R m2) ∧ (-1 ≠ r2 → S m2)) := fun h => v_Mo_more (c_Mo_in (d := d + 5) (fun q => absurd q h) (fun _ => ⟨fun q => absurd rfl q, fun _ => same _⟩))
  refine v_Od_more ⟨fun c => bad (by omega), fun c => ⟨fun c1 => ⟨fun c2 => ?_, fun c2 => ?_⟩, fun c1 => bad (by omega)⟩⟩
  · rw [h2] at c2
    refine c_Bu_seekMore (d := d) w1 c2 w3 w2 hP.1 (fun m1 hH1 y3 y2 hf1 => v_Bu_answer ?_)
    have e3 : m1 123 = mem 123 := hf1 123 (by omega) (by omega) (by omega)
    have e22 : m1 122 = mem 122 := hf1 122 (by omega) (by omega) (by omega)
    have hI1 : Ipal m1 := by
      refine hI.1.near c2 hH1 (hf1 1 (by omega) (by omega) (by omega)) (fun k k1 k2 => hf1 k (by omega) (by omega) (by omega)) (by rw [e3]; exact gNe.refl) (by rw [e22])
    have ref : ∀ v : Int, v = (if (mrA (mem 123) (mem 122 1) (mem 122 1).toNat).2 = -4 ∨ a = 0 then (mrA (mem 123) (mem 122 1) (mem 122 1).toNat).2 else (mrA (mem 123) (mem 122 1) (mem 122 1).toNat).1) → zC (d + 7) K_Mo_more [(2, Int.ofNat 122), (0, a)] m1 (fun r2 m2 => (v = r2 → R m2) ∧ (v ≠ r2 → S m2)) := by
      intro v hv
      refine v_Mo_more (c_Mo_in (d := d + 5) (fun _ => ⟨fun _ => c_Mo_doorMany (d := d + 5) ?_, fun q => absurd q (by decide)⟩) (fun q => absurd ⟨c, c1⟩ q))
      have e56 : m1 123 56 = gN (mem 123) := by rw [e3]; rfl
      rw [e56]
      refine ⟨fun _ => ?_, fun q => by omega⟩
      refine c_Mo_pairsNow (d := d + 1) (by rw [e3]; exact w1) (by rw [e3, e22]; exact w3) (by rw [e22]; exact w2) (fun m2 f2 => ?_)
      have e32 : m2 123 = mem 123 := by rw [f2.pg, e3]
      have r2 : m2 122 1 = mem 122 1 := by rw [f2.2 1 (by omega), e22]
      have hI2 : Ipal m2 := hI1.sc f2.sc
      have key := l_Mo_more (d := d + 1) (mem := m2) (x := a) (Q := fun r2 m2 => (v = r2 → R m2) ∧ (v ≠ r2 → S m2)) hI2 (by rw [e32]; exact c2) (fun m3 g3 hf3 hr3 => ?_) (m2 122 1).toNat 0 m2 (by omega) gNe.refl (fun _ _ _ _ => rfl) (fun _ _ => rfl)
      · rw [e32, r2] at key
        have e0 : mrA (mem 123) (mem 122 1) 0 = (gPr (mem 123) (mem 122 1), -4) := rfl
        rw [e0] at key
        rw [e3, e22]
        exact key
      · rw [e32] at g3
        rw [e32, r2]
        refine ⟨fun _ => hR m3 (hI.fr (hI.1.near c2 ?_ ?_ (fun k k1 k2 => ?_) g3 ?_) ?_ (fun j hj => ?_) (fun i hi => g3 i (by omega)) (fun k k1 k2 => ?_) (fun k k1 k2 => ?_) (fun k k1 k2 => ?_)), fun q => absurd hv q⟩
        · exact hH1.fr (fun k k1 k2 => by rw [hf3 k (by omega) (by omega) (by omega), f2.1 k (by omega) (by omega)])
        · rw [hf3 1 (by omega) (by omega) (by omega), f2.1 1 (by omega) (by omega), hf1 1 (by omega) (by omega) (by omega)]
        · rw [hf3 k (by omega) (by omega) (by omega), f2.1 k (by omega) (by omega), hf1 k (by omega) (by omega) (by omega)]
        · rw [hr3 1 (by omega), r2]
        · rw [hf3 0 (by omega) (by omega) (by omega), f2.1 0 (by omega) (by omega), hf1 0 (by omega) (by omega) (by omega)]
        · rw [hr3 j (by omega), f2.2 j (by omega), e22]
        · rw [hf3 k (by omega) (by omega) (by omega), f2.1 k (by omega) (by omega), hf1 k (by omega) (by omega) (by omega)]
        · rw [hf3 k (by omega) (by omega) (by omega), f2.1 k (by omega) (by omega), hf1 k (by omega) (by omega) (by omega)]
        · rw [hf3 k (by omega) (by omega) (by omega), f2.1 k (by omega) (by omega), hf1 k (by omega) (by omega) (by omega)]
    rw [y3, y2]
    refine ⟨fun q => ⟨fun z => ref _ ?_, fun z => ref _ ?_⟩, fun q => ref _ ?_⟩
    · rw [if_neg (by omega)]
    · rw [if_pos (Or.inr z)]
    · rw [if_pos (Or.inl q), q]
  · rw [h2] at c2
    refine v_Mo_more (c_Mo_in (d := d + 5) (fun _ => ⟨fun _ => c_Mo_doorMany (d := d + 5) ?_, fun q => absurd q (by decide)⟩) (fun q => absurd ⟨c, c1⟩ q))
    have e56 : mem 123 56 = gN (mem 123) := rfl
    rw [e56]
    exact ⟨fun q => by omega, fun _ => same _⟩
end
