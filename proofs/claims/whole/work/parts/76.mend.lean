section
variable {d w : Nat} {mem m m' m2 : zMem} {Q : Int → zMem → Prop} {R S : zMem → Prop} {g g' g1 g2 : zPg} {b : zBf} {rm pl r t u p : Int} {k s : Nat}
/-- wide: but for the places of doors that there are not -/
def gNw (g g' : zPg) : Prop := ∀ i, ¬ (4 * (gN g).toNat ≤ i ∧ i < 56) → g' i = g i
theorem gNw.refl : gNw g g := fun _ _ => rfl
theorem gNw.q (h : gNw g g') (hN : 0 ≤ gN g ∧ gN g ≤ 14) : gQ g g' :=
  ⟨h 56 (by omega), h 73 (by omega), fun k hk => ⟨h _ (by omega), h _ (by omega), h _ (by omega), h _ (by omega)⟩⟩
theorem Ipal.nearw (hI : Ipal mem) (hH : Hs m' 2 (mem 123) (mem 122 1)) (h1 : m' 1 = mem 1) (h8 : ∀ k, 8 ≤ k → k ≤ 14 → m' k = mem k) (hg : gNw (mem 123) (m' 123)) (hr : m' 122 1 = mem 122 1) : Ipal m' := by
  obtain ⟨⟨w1, w2, w3, w4, w5, w6, w7⟩, p1, p2, p3, p4, p5⟩ := hI
  have hn := w1.1
  obtain ⟨q1, q2, q3⟩ := hg.q hn
  have eP : gP (m' 123) = gP (mem 123) := hg 72 (by omega)
  have eW : gW (m' 123) = gW (mem 123) := hg 86 (by omega)
  unfold Ipal
  rw [hr]
  refine ⟨⟨⟨by rw [q1]; exact hn, by rw [q2]; exact w1.2.1, fun k hk => ?_⟩, w2, fun k hk => ?_, by rw [eP]; exact w4, fun i hi => ?_, by rw [eW]; exact w6, fun i hi => ?_⟩, hH.gQ (hg.q hn), by rw [h1, eP]; exact p2, fun i hi => ?_, by rw [h1, eW]; exact p4, fun i hi => ?_⟩
  · rw [q1] at hk
    obtain ⟨a1, a2, a3, a4⟩ := q3 k hk
    rw [a1, a2, a3, a4]
    exact w1.2.2 k hk
  · rw [q1] at hk
    obtain ⟨a1, a2, a3, a4⟩ := q3 k hk
    rw [a1, a2]
    exact w3 k hk
  · rw [eP] at hi
    have a1 : gR (m' 123) i = gR (mem 123) i := hg _ (by omega)
    have a2 : gT (m' 123) i = gT (mem 123) i := hg _ (by omega)
    have a3 : gU (m' 123) i = gU (mem 123) i := hg _ (by omega)
    obtain ⟨b1, b2, b3, b4⟩ := w5 i hi
    unfold gWk
    rw [a1, a2, a3, q1]
    refine ⟨b1, ?_, b3, b4⟩
    rcases b2 with b2 | ⟨b2, b2', b2''⟩
    · exact Or.inl b2
    · obtain ⟨c1, c2, -, -⟩ := q3 (gT (mem 123) i).toNat (by omega)
      rw [c1, c2]
      exact Or.inr ⟨b2, b2', b2''⟩
  · rw [eW] at hi
    rw [hg (74 + i) (by omega), q1]
    exact w7 i hi
  · rw [eP] at hi
    have a1 : gR (m' 123) i = gR (mem 123) i := hg _ (by omega)
    have a2 : gT (m' 123) i = gT (mem 123) i := hg _ (by omega)
    have a3 : gU (m' 123) i = gU (mem 123) i := hg _ (by omega)
    have := p3 i hi
    unfold Ws at this ⊢
    rw [a1, a2, a3, h8 (1 + 8 + i) (by omega) (by omega)]
    exact this
  · rw [eW] at hi
    rw [h8 (1 + 13) (by omega) (by omega), hg (74 + i) (by omega)]
    exact p5 i hi
theorem gDo.q (h : gQ g g') (hD : gDo g) : gDo g' := by
  obtain ⟨h1, h2, h3⟩ := hD
  refine ⟨by rw [h.1]; exact h1, by rw [h.2.1]; exact h2, fun k hk => ?_⟩
  rw [h.1] at hk
  obtain ⟨a1, a2, a3, a4⟩ := h.2.2 k hk
  rw [a1, a2, a3, a4]
  exact h3 k hk
theorem gQ.rr (h : gQ g g') (hrr : ∀ k : Nat, (k : Int) < gN g → gA g k < rm ∧ gB g k < rm) : ∀ k : Nat, (k : Int) < gN g' → gA g' k < rm ∧ gB g' k < rm := by
  intro k hk
  rw [h.1] at hk
  obtain ⟨a1, a2, -, -⟩ := h.2.2 k hk
  rw [a1, a2]
  exact hrr k hk
theorem gA2_N (hN : 0 ≤ gN g ∧ gN g < 14) : gN (gA2 g k) = gN g + 1 := (gAdd_at (g := g) hN).1
theorem gA2_Do (hD : gDo g) (hN : gN g < 14) (hrm : rm ≤ 10) (hv : gVp rm k) : gDo (gA2 g k) := gAdd_Do hD hN (by have := hv.2.1; have := hv.1; omega) (by omega) (by have := hv.2.1; omega) (by omega)
theorem gA2_rr (hD : gDo g) (hN : gN g < 14) (hrr : ∀ k : Nat, (k : Int) < gN g → gA g k < rm ∧ gB g k < rm) (hv : gVp rm k) : ∀ j : Nat, (j : Int) < gN (gA2 g k) → gA (gA2 g k) j < rm ∧ gB (gA2 g k) j < rm := gAdd_rr ⟨hD.1.1, hN⟩ hrr (by have := hv.2.1; have := hv.2.2; omega) hv.2.2
theorem gPop_gQ (hN : 0 ≤ gN g ∧ gN g < 14) {a c e : Int} : gQ (gPop (gAdd g a c e)) g := by
  obtain ⟨q1, q2, q3⟩ := (gNe.pop (g := g) (a := a) (c := c) (e := e) hN).q hN
  refine ⟨q1.symm, q2.symm, fun k hk => ?_⟩
  obtain ⟨a1, a2, a3, a4⟩ := q3 k (by rw [← q1]; exact hk)
  exact ⟨a1.symm, a2.symm, a3.symm, a4.symm⟩
/-! the class -/
theorem c_Bu_isPair (hH : Hs mem 2 g rm) (hk : k < 100) (hQ1 : gVp rm k → Q 1 mem) (hQ0 : ¬ gVp rm k → Q 0 mem) : zC (d + 2) K_Bu_isPair [(2, Int.ofNat 2), (0, (k : Int))] mem Q := by
  have h0 := hH.1
  refine v_Bu_isPair ?_
  rw [zd (by omega) (by omega), zr (by omega) (by omega)]
  unfold gVp at hQ1 hQ0
  exact ⟨fun c => hQ0 (by omega), fun c => c_Ho_hasRoom (d := d) (Or.inl rfl) (fun c2 => ⟨fun q => absurd q (by decide), fun _ => hQ1 (by omega)⟩) (fun c2 => ⟨fun _ => hQ0 (by omega), fun q => absurd rfl q⟩)⟩
theorem losing_z {v : Int} (hv : zI v) (hrm : rm ≤ 10) (hb : ∀ j : Nat, j < 32 → (zB v j ↔ (j : Int) < rm ∧ gLo g j)) : v = 0 ↔ gSf g rm := by
  rw [zB_z hv]
  constructor
  · intro q r r0 r1 hlo
    refine q r.toNat (by omega) ((hb r.toNat (by omega)).mpr ?_)
    rw [Int.toNat_of_nonneg r0]
    exact ⟨r1, hlo⟩
  · intro q j hj z
    obtain ⟨z1, z2⟩ := (hb j hj).mp z
    exact q j (by omega) z1 z2
theorem rooms_z {x : Int} (hk : k < 100) : zand x (zxor (zor (zshl 1 ((k : Int) / 10)) (zshl 1 ((k : Int) % 10))) (-1)) = 0 ↔ ∀ j : Nat, j < 32 → zB x j → (j = k / 10 ∨ j = k % 10) := by
  rw [zB_z (zand_I _ _)]
  constructor
  · intro q j hj z
    have := q j hj
    rw [zB_and, zB_not _ hj, zB_or, zB_shl (by omega) (by omega), zB_shl (by omega) (by omega)] at this
    refine Classical.byContradiction fun y => this ⟨z, fun y2 => y ?_⟩
    omega
  · intro q j hj
    rw [zB_and, zB_not _ hj, zB_or, zB_shl (by omega) (by omega), zB_shl (by omega) (by omega)]
    rintro ⟨z1, z2⟩
    apply z2
    have := q j hj z1
    omega
theorem l_Bu_mendByOne (hD : gDo g) (hN : gN g < 14) (hrr : ∀ k : Nat, (k : Int) < gN g → gA g k < rm ∧ gB g k < rm) (hrm : 0 < rm ∧ rm ≤ 10) {v : Int} (hv : ∀ j : Nat, j < 32 → zB v j → (j : Int) < rm ∧ gLo g j) {at_ : Int} (hat : 0 ≤ at_ ∧ at_ < 2) {l : Nat}
    (hQ1 : ∀ (m' : zMem) (k : Nat), l ≤ k → gS1 g rm k → (∀ j, l ≤ j → j < k → ¬ gS1 g rm j) → Hs m' 2 g rm → m' 118 at_.toNat = k → (∀ c, (c < 2 ∨ 7 < c) → c ≠ 118 → m' c = mem c) → (∀ j, j ≠ at_.toNat → m' 118 j = mem 118 j) → Q 1 m')
    (hQ0 : ∀ m' : zMem, (∀ j, l ≤ j → ¬ gS1 g rm j) → Hs m' 2 g rm → (∀ c, (c < 2 ∨ 7 < c) → m' c = mem c) → Q 0 m') :
    ∀ (n k : Nat) (m : zMem), k + n = 100 → l ≤ k → (∀ j, l ≤ j → j < k → ¬ gS1 g rm j) → Hs m 2 g rm → (∀ c, (c < 2 ∨ 7 < c) → m c = mem c) → zG (d + 5) M_Bu_mendByOne 3 [(2, Int.ofNat 112), (2, Int.ofNat 2), (9, 0), (0, v), (0, at_), (0, (k : Int)), (9, 0)] [] m Q := by
  have hn := hD.1
  intro n
  induction n with
  | zero =>
    intro k m hk hl hno hH hf
    refine v_Bu_mendByOne_3 ⟨fun c => hQ0 m (fun j hj q => ?_) hH hf, fun c => by omega⟩
    exact hno j hj (by have := q.1.1; omega) q
  | succ n ih =>
    intro k m hk hl hno hH hf
    have nx : ¬ gS1 g rm k → ∀ m1 : zMem, Hs m1 2 g rm → (∀ c, (c < 2 ∨ 7 < c) → m1 c = mem c) → ∀ x2 : Int, x2 = zadd (k : Int) 1 → zG (d + 5) M_Bu_mendByOne 3 [(2, Int.ofNat 112), (2, Int.ofNat 2), (9, 0), (0, v), (0, at_), (0, x2), (9, 0)] [] m1 Q := by
      intro hnk m1 hH1 hf1 x2 e2
      rw [za (by omega)] at e2
      rw [e2]
      refine ih (k + 1) m1 (by omega) (by omega) (fun j hj hjk => ?_) hH1 hf1
      by_cases e : j = k
      · rw [e]; exact hnk
      · exact hno j hj (by omega)
    refine v_Bu_mendByOne_3 ⟨fun c => by omega, fun c => c_Bu_isPair (d := d + 2) hH (by omega) (fun hp => ⟨fun q => absurd q (by decide), fun _ => v_Bu_roomsOf ?_⟩) (fun hp => ⟨fun _ => nx (fun q => hp q.1) m hH hf, fun q => absurd rfl q⟩)⟩
    rw [zd (by omega) (by omega), zr (by omega) (by omega), rooms_z (by omega)]
    obtain ⟨v1, v2, v3⟩ := id hp
    refine ⟨fun c2 => ?_, fun c2 => nx (fun q => ?_) m hH hf⟩
    · have e10 : (k : Int) / 10 = ((k / 10 : Nat) : Int) := by omega
      have e1 : (k : Int) % 10 = ((k % 10 : Nat) : Int) := by omega
      rw [e10, e1]
      refine c_Ho_add (d := d + 3) (Or.inl rfl) hH hD (by omega) (by omega) (by omega) (by omega) (fun q => by omega) (fun _ m1 hH1 hf1 => ?_)
      have hD1 : gDo (gA2 g k) := gA2_Do hD hN hrm.2 hp
      have hH1 : Hs m1 2 (gA2 g k) rm := hH1
      obtain ⟨x1, -, -, -, -, -, xx⟩ := gAdd_at (g := g) (a := ((k / 10 : Nat) : Int)) (b := ((k % 10 : Nat) : Int)) (c := 0) ⟨hn.1, hN⟩
      have x1 : gN (gA2 g k) = gN g + 1 := x1
      have xx : gX (gA2 g k) (gN g).toNat = 0 := xx
      have drop : ∀ Q2 : Int → zMem → Prop, (∀ m3 : zMem, Hs m3 2 g rm → (∀ c, (c < 2 ∨ 7 < c) → m3 c = mem c) → Q2 0 m3) → zC (d + 4) K_Ho_dropLatest [(2, Int.ofNat 2)] m1 Q2 := by
        intro Q2 hq
        refine c_Ho_dropLatest (d := d + 3) (Or.inl rfl) hH1 hD1 (by omega) (by rw [x1, show (gN g + 1 - 1).toNat = (gN g).toNat by omega]; exact xx) (fun m3 hH3 hf3 => ?_)
        exact hq m3 (hH3.gQ (gPop_gQ ⟨hn.1, hN⟩)) (fun c hc => by rw [hf3 c (by omega), hf1 c (by omega), hf c hc])
      refine c_Ho_losing (d := d) (Or.inl rfl) hH1 hD1 (by omega) hrm.2 (fun y hy hyb => ⟨fun c3 => drop _ (fun m3 hH3 hf3 => nx (fun q => c3 ((losing_z hy hrm.2 hyb).mpr q.2)) m3 hH3 hf3), fun c3 => drop _ (fun m3 hH3 hf3 => ⟨hat, fun m4 f4 => ?_⟩)⟩)
      refine hQ1 m4 k hl ⟨hp, (losing_z hy hrm.2 hyb).mp c3⟩ hno (hH3.fr (fun c c1 c2 => by funext j; rw [f4, zup_k (by omega)])) (by rw [f4, zup_e]) (fun c hc hc2 => ?_) (fun j hj => ?_)
      · funext j
        rw [f4, zup_k hc2, hf3 c hc]
      · rw [f4, zup_j hj, hf3 118 (by omega)]
    · refine c2 ((rooms_z (by omega)).mpr (fun j hj hz => ?_))
      obtain ⟨z1, z2⟩ := hv j hj hz
      refine Classical.byContradiction fun y => q.2 j (by omega) z1 ?_
      exact gLo.add hD hN (by omega) (by omega) z2
theorem c_Bu_mendByOne (hD : gDo g) (hN : gN g < 14) (hrr : ∀ k : Nat, (k : Int) < gN g → gA g k < rm ∧ gB g k < rm) (hrm : 0 < rm ∧ rm ≤ 10) (hH : Hs mem 2 g rm) {v : Int} (hv : ∀ j : Nat, j < 32 → zB v j → (j : Int) < rm ∧ gLo g j) {at_ : Int} (hat : 0 ≤ at_ ∧ at_ < 2) {l : Nat} (hl : l ≤ 100)
    (hQ1 : ∀ (m' : zMem) (k : Nat), l ≤ k → gS1 g rm k → (∀ j, l ≤ j → j < k → ¬ gS1 g rm j) → Hs m' 2 g rm → m' 118 at_.toNat = k → (∀ c, (c < 2 ∨ 7 < c) → c ≠ 118 → m' c = mem c) → (∀ j, j ≠ at_.toNat → m' 118 j = mem 118 j) → Q 1 m')
    (hQ0 : ∀ m' : zMem, (∀ j, l ≤ j → ¬ gS1 g rm j) → Hs m' 2 g rm → (∀ c, (c < 2 ∨ 7 < c) → m' c = mem c) → Q 0 m') : zC (d + 5) K_Bu_mendByOne [(2, Int.ofNat 112), (2, Int.ofNat 2), (0, (l : Int)), (0, v), (0, at_)] mem Q :=
  v_Bu_mendByOne (l_Bu_mendByOne hD hN hrr hrm hv hat hQ1 hQ0 (100 - l) l mem (by omega) (Nat.le_refl _) (fun j h1 h2 => by omega) hH (fun _ _ => rfl))
theorem c_Bu_mendByTwo (hD : gDo g) (hN : gN g + 1 < 14) (hrr : ∀ k : Nat, (k : Int) < gN g → gA g k < rm ∧ gB g k < rm) (hrm : 0 < rm ∧ rm ≤ 10) (hH : Hs mem 2 g rm) {v : Int} (hv : ∀ j : Nat, j < 32 → zB v j → (j : Int) < rm ∧ gLo g j)
    (hQ1 : ∀ (m' : zMem) (k x : Nat), k ≤ x → gS2 g rm k x → (∀ y, k ≤ y → y < x → ¬ gS2 g rm k y) → (∀ j, j < k → ∀ y, j ≤ y → ¬ gS2 g rm j y) → Hs m' 2 g rm → m' 118 0 = k → m' 118 1 = x → (∀ c, (c < 2 ∨ 7 < c) → c ≠ 118 → m' c = mem c) → Q 1 m')
    (hQ0 : ∀ m' : zMem, (∀ j y, j ≤ y → ¬ gS2 g rm j y) → Hs m' 2 g rm → (∀ c, (c < 2 ∨ 7 < c) → c ≠ 118 → m' c = mem c) → Q 0 m') : zC (d + 6) K_Bu_mendByTwo [(2, Int.ofNat 112), (2, Int.ofNat 2), (0, v)] mem Q := by
  have hn := hD.1
  have loop : ∀ (n k : Nat) (m : zMem), k + n = 100 → (∀ j, j < k → ∀ y, j ≤ y → ¬ gS2 g rm j y) → Hs m 2 g rm → (∀ c, (c < 2 ∨ 7 < c) → c ≠ 118 → m c = mem c) → zG (d + 6) M_Bu_mendByTwo 2 [(2, Int.ofNat 112), (2, Int.ofNat 2), (0, v), (0, (k : Int)), (9, 0)] [] m Q := by
    intro n
    induction n with
    | zero =>
      intro k m hk hno hH hf
      refine v_Bu_mendByTwo_2 ⟨fun c => hQ0 m (fun j y hy q => ?_) hH hf, fun c => by omega⟩
      exact hno j (by have := q.1.1; omega) y hy q
    | succ n ih =>
      intro k m hk hno hH hf
      have nx : (∀ y, k ≤ y → ¬ gS2 g rm k y) → ∀ m1 : zMem, Hs m1 2 g rm → (∀ c, (c < 2 ∨ 7 < c) → c ≠ 118 → m1 c = mem c) → ∀ x2 : Int, x2 = zadd (k : Int) 1 → zG (d + 6) M_Bu_mendByTwo 2 [(2, Int.ofNat 112), (2, Int.ofNat 2), (0, v), (0, x2), (9, 0)] [] m1 Q := by
        intro hnk m1 hH1 hf1 x2 e2
        rw [za (by omega)] at e2
        rw [e2]
        refine ih (k + 1) m1 (by omega) (fun j hj => ?_) hH1 hf1
        by_cases e : j = k
        · rw [e]; exact hnk
        · exact hno j (by omega)
      refine v_Bu_mendByTwo_2 ⟨fun c => by omega, fun c => c_Bu_isPair (d := d + 3) hH (by omega) (fun hp => ⟨fun _ => ?_, fun q => absurd q (by decide)⟩) (fun hp => ⟨fun q => absurd rfl q, fun _ => nx (fun y _ q => hp q.1) m hH hf⟩)⟩
      obtain ⟨v1, v2, v3⟩ := id hp
      rw [zd (by omega) (by omega), zr (by omega) (by omega)]
      have e10 : (k : Int) / 10 = ((k / 10 : Nat) : Int) := by omega
      have e1 : (k : Int) % 10 = ((k % 10 : Nat) : Int) := by omega
      rw [e10, e1]
      refine c_Ho_add (d := d + 4) (Or.inl rfl) hH hD (by omega) (by omega) (by omega) (by omega) (fun q => by omega) (fun _ m1 hH1 hf1 => v_Bu_roomsOf ?_)
      rw [zd (by omega) (by omega), zr (by omega) (by omega)]
      have hD1 : gDo (gA2 g k) := gA2_Do hD (by omega) hrm.2 hp
      have hH1 : Hs m1 2 (gA2 g k) rm := hH1
      obtain ⟨x1, -, -, -, -, -, xx⟩ := gAdd_at (g := g) (a := ((k / 10 : Nat) : Int)) (b := ((k % 10 : Nat) : Int)) (c := 0) ⟨hn.1, by omega⟩
      have x1 : gN (gA2 g k) = gN g + 1 := x1
      have xx : gX (gA2 g k) (gN g).toNat = 0 := xx
      have drop : ∀ (m2 : zMem) (Q2 : Int → zMem → Prop), Hs m2 2 (gA2 g k) rm → (∀ m3 : zMem, Hs m3 2 g rm → (∀ c, (c < 2 ∨ 7 < c) → m3 c = m2 c) → Q2 0 m3) → zC (d + 5) K_Ho_dropLatest [(2, Int.ofNat 2)] m2 Q2 := by
        intro m2 Q2 hH2 hq
        refine c_Ho_dropLatest (d := d + 4) (Or.inl rfl) hH2 hD1 (by omega) (by rw [x1, show (gN g + 1 - 1).toNat = (gN g).toNat by omega]; exact xx) (fun m3 hH3 hf3 => ?_)
        exact hq m3 (hH3.gQ (gPop_gQ ⟨hn.1, by omega⟩)) (fun c hc => hf3 c (by omega))
      refine c_Bu_mendByOne (d := d) (g := gA2 g k) hD1 (by omega) (gA2_rr hD (by omega) hrr hp) hrm hH1 (fun j hj hz => ?_) (at_ := 1) (by omega) (l := k) (by omega) (fun m2 x hkx hs1 hmin hH2 hm2 hf2 hf21 => ?_) (fun m2 hno2 hH2 hf2 => ?_)
      · rw [zB_and, zB_not _ hj, zB_or, zB_shl (by omega) (by omega), zB_shl (by omega) (by omega)] at hz
        obtain ⟨z1, z2⟩ := hv j hj hz.1
        exact ⟨z1, gLo.add hD (by omega) (by omega) (by omega) z2⟩
      · refine drop m2 _ hH2 (fun m3 hH3 hf3 => ⟨fun q => absurd q (by decide), fun _ m4 f4 => ?_⟩)
        refine hQ1 m4 k x hkx ⟨hp, hs1.1, hs1.2⟩ (fun y y1 y2 q => hmin y y1 y2 ⟨q.2.1, q.2.2⟩) hno (hH3.fr (fun c c1 c2 => by funext j; rw [f4, zup_k (by omega)])) (by rw [f4, zup_e]) ?_ (fun c hc hc2 => ?_)
        · rw [f4, zup_j (by omega), hf3 118 (by omega)]
          exact hm2
        · funext j
          rw [f4, zup_k hc2, hf3 c hc, hf2 c hc hc2, hf1 c (by omega), hf c hc hc2]
      · refine drop m2 _ hH2 (fun m3 hH3 hf3 => ⟨fun _ => nx (fun y hy q => hno2 y hy ⟨q.2.1, q.2.2⟩) m3 hH3 (fun c hc hc2 => by rw [hf3 c hc, hf2 c hc, hf1 c (by omega), hf c hc hc2]), fun q => absurd rfl q⟩)
  exact v_Bu_mendByTwo (loop 100 0 mem (by omega) (fun j hj => by omega) hH (fun _ _ _ => rfl))
theorem c_Bu_seekMend (hD : gDo g) (hrr : ∀ k : Nat, (k : Int) < gN g → gA g k < rm ∧ gB g k < rm) (hrm : 0 < rm ∧ rm ≤ 10) (hH : Hs mem 2 g rm)
    (hQ : ∀ (m' : zMem) (n f s : Int), gMd g rm n f s → (1 ≤ n → m' 118 0 = f) → (2 ≤ n → m' 118 1 = s) → n ≤ 2 → Hs m' 2 g rm → (∀ c, (c < 2 ∨ 7 < c) → c ≠ 118 → m' c = mem c) → Q n m') : zC (d + 7) K_Bu_seekMend [(2, Int.ofNat 112), (2, Int.ofNat 2)] mem Q := by
  have hn := hD.1
  have e2 := hH.2.2.1
  refine v_Bu_seekMend (c_Ho_losing (d := d + 2) (Or.inl rfl) hH hD (by omega) hrm.2 (fun v hv hb => ⟨fun c => ?_, fun c => ?_⟩))
  · have hns : ¬ gSf g rm := fun q => c ((losing_z hv hrm.2 hb).mpr q)
    have hvb : ∀ j : Nat, j < 32 → zB v j → (j : Int) < rm ∧ gLo g j := fun j hj z => (hb j hj).mp z
    rw [e2, za (by omega)]
    -- two
    have two : ∀ m1 : zMem, Hs m1 2 g rm → (∀ c, (c < 2 ∨ 7 < c) → m1 c = mem c) → (gN g < 14 → ∀ j, ¬ gS1 g rm j) → ((14 < zadd (m1 2 2) 2 → Q (-4) m1) ∧ (zadd (m1 2 2) 2 ≤ 14 → zC (d + 6) K_Bu_mendByTwo [(2, Int.ofNat 112), (2, Int.ofNat 2), (0, v)] m1 (fun r2 m2 => ((r2 = 0 → Q (-4) m2) ∧ (r2 ≠ 0 → Q 2 m2))))) := by
      intro m1 hH1 hf1 hno1
      have e21 := hH1.2.2.1
      rw [e21, za (by omega)]
      refine ⟨fun q => hQ m1 (-4) (-4) (-4) (Or.inr (Or.inr (Or.inr ⟨hns, hno1, fun z => by omega, rfl, rfl, rfl⟩))) (by omega) (by omega) (by omega) hH1 (fun c hc _ => hf1 c hc), fun q => ?_⟩
      refine c_Bu_mendByTwo (d := d) hD (by omega) hrr hrm hH1 hvb (fun m2 k x hkx hs2 hmin hno hH2 a0 a1 hf2 => ⟨fun z => absurd z (by decide), fun _ => ?_⟩) (fun m2 hno hH2 hf2 => ⟨fun _ => ?_, fun z => absurd rfl z⟩)
      · have hno' : ∀ j, j < k → ∀ y, ¬ gS2 g rm j y := by
          intro j hj y z
          rcases Nat.lt_or_ge y j with z1 | z1
          · exact hno y (by omega) j (by omega) ⟨z.2.1, z.1, gSf.swap hD (by omega) z.2.2⟩
          · exact hno j hj y z1 z
        refine hQ m2 2 k x (Or.inr (Or.inr (Or.inl ⟨hns, hno1, by omega, rfl, k, x, rfl, rfl, hs2, hno', fun y hy z => ?_⟩))) (fun _ => a0) (fun _ => a1) (by omega) hH2 (fun c hc hc2 => by rw [hf2 c hc hc2, hf1 c hc])
        rcases Nat.lt_or_ge y k with z1 | z1
        · exact hno' y z1 k ⟨z.2.1, z.1, gSf.swap hD (by omega) z.2.2⟩
        · exact hmin y z1 hy z
      · refine hQ m2 (-4) (-4) (-4) (Or.inr (Or.inr (Or.inr ⟨hns, hno1, fun _ j y z => ?_, rfl, rfl, rfl⟩))) (by omega) (by omega) (by omega) hH2 (fun c hc hc2 => by rw [hf2 c hc hc2, hf1 c hc])
        rcases Nat.lt_or_ge y j with z1 | z1
        · exact hno y j (by omega) ⟨z.2.1, z.1, gSf.swap hD (by omega) z.2.2⟩
        · exact hno j y z1 z
    refine ⟨fun q => ?_, fun q => ?_⟩
    · have := two mem hH (fun _ _ => rfl) (fun z => by omega)
      rw [e2] at this
      exact this
    · refine c_Bu_mendByOne (d := d + 1) hD (by omega) hrr hrm hH hvb (at_ := 0) (by omega) (l := 0) (by omega) (fun m1 k _ hs1 hmin hH1 a0 hf1 _ => ⟨fun z => absurd z (by decide), fun _ => ?_⟩) (fun m1 hno hH1 hf1 => ⟨fun _ => ?_, fun z => absurd rfl z⟩)
      · exact hQ m1 1 k (-4) (Or.inr (Or.inl ⟨hns, by omega, rfl, rfl, k, rfl, hs1, fun j hj => hmin j (by omega) hj⟩)) (fun _ => a0) (by omega) (by omega) hH1 hf1
      · exact two m1 hH1 hf1 (fun _ j => hno j (by omega))
  · exact hQ mem 0 (-4) (-4) (Or.inl ⟨(losing_z hv hrm.2 hb).mp c, rfl, rfl, rfl⟩) (by omega) (by omega) (by omega) hH (fun _ _ _ => rfl)
end
