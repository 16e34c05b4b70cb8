section
/-! mend: a door changes nothing but in its rooms; the order of two doors is of no weight. -/
variable {d w : Nat} {mem m m' m2 : zMem} {Q : Int → zMem → Prop} {R S : zMem → Prop} {g g' g1 g2 : zPg} {b : zBf} {rm pl r t u p : Int} {k s : Nat}
/-- doors under other numbers -/
def gPm (f : Nat → Nat) (g1 g2 : zPg) : Prop := gN g2 = gN g1 ∧ gL g2 = gL g1 ∧ (∀ j, f (f j) = j) ∧ ∀ j : Nat, (j : Int) < gN g1 → ((f j : Nat) : Int) < gN g1 ∧ gA g2 (f j) = gA g1 j ∧ gB g2 (f j) = gB g1 j ∧ gC g2 (f j) = gC g1 j ∧ gX g2 (f j) = gX g1 j
theorem gPm.lt {f : Nat → Nat} (h : gPm f g1 g2) (j : Nat) : ((f j : Nat) : Int) < gN g1 ↔ (j : Int) < gN g1 := by
  constructor
  · intro q
    have := (h.2.2.2 (f j) q).1
    rw [h.2.2.1 j] at this
    exact this
  · intro q
    exact (h.2.2.2 j q).1
theorem gPm.O {f : Nat → Nat} (h : gPm f g1 g2) (j : Nat) : gO g2 r (f j) ↔ gO g1 r j := by
  unfold gO
  rw [h.1, h.lt j]
  by_cases q : (j : Int) < gN g1
  · obtain ⟨-, a1, a2, a3, a4⟩ := h.2.2.2 j q
    rw [a1, a2, a4]
  · exact ⟨fun z => absurd z.1 q, fun z => absurd z.1 q⟩
theorem gPm.inj {f : Nat → Nat} (h : gPm f g1 g2) {i j : Nat} : f i = f j ↔ i = j := by
  constructor
  · intro q
    rw [← h.2.2.1 i, ← h.2.2.1 j, q]
  · intro q
    rw [q]
theorem gPm.may {f : Nat → Nat} (h : gPm f g1 g2) {l j : Nat} {e : Int} {e' : Int} (hl : (l : Int) < gN g1) (he : (e = -1 ∧ e' = -1) ∨ ∃ x : Nat, e = x ∧ e' = ((f x : Nat) : Int)) : gMay g2 r ((f l : Nat) : Int) e' (f j) ↔ gMay g1 r (l : Int) e j := by
  unfold gMay
  rw [h.O j]
  refine and_congr_right fun ho => not_congr ?_
  obtain ⟨-, a1, a2, a3, a4⟩ := h.2.2.2 j ho.1
  obtain ⟨-, b1, b2, b3, b4⟩ := h.2.2.2 l hl
  unfold gBar
  rw [h.2.1, Int.toNat_natCast, Int.toNat_natCast, a3, b3]
  have i1 : ((f j : Nat) : Int) = ((f l : Nat) : Int) ↔ (j : Int) = (l : Int) := by
    have := h.inj (i := j) (j := l)
    omega
  have i2 : ((f j : Nat) : Int) = e' ↔ (j : Int) = e := by
    rcases he with ⟨q1, q2⟩ | ⟨x, q1, q2⟩
    · omega
    · have := h.inj (i := j) (j := x)
      omega
  rw [i1, i2]
  constructor
  · rintro ⟨-, q⟩; exact ⟨by omega, q⟩
  · rintro ⟨-, q⟩; exact ⟨by omega, q⟩
theorem gPm.lo {f : Nat → Nat} (h : gPm f g1 g2) (hN : gN g1 ≤ 14) (hl : gLo g1 r) : gLo g2 r := by
  have f32 : ∀ {l e : Int} {j : Nat}, gMay g2 r l e j → (f j < 32 ∧ f (f j) = j) := by
    intro l e j q
    have q1 : (j : Int) < gN g2 := q.1.1
    rw [h.1] at q1
    have := (h.2.2.2 j q1).1
    exact ⟨by omega, h.2.2.1 j⟩
  rcases hl with ⟨k, ho, hn⟩ | ⟨hL, k, ho, e, he, hek, hn⟩
  · left
    refine ⟨f k, (h.O k).mpr ho, fun j _ q => ?_⟩
    obtain ⟨y1, y2⟩ := f32 q
    rw [← y2, h.may ho.1 (Or.inl ⟨rfl, rfl⟩)] at q
    exact hn (f j) y1 q
  · right
    refine ⟨by rw [h.2.1]; exact hL, f k, (h.O k).mpr ho, f e, ?_, fun q => hek (h.inj.mp q), fun j _ q => ?_⟩
    · obtain ⟨-, a1, a2, -, -⟩ := h.2.2.2 k ho.1
      rw [a1, a2]
      exact (h.O e).mpr he
    · obtain ⟨y1, y2⟩ := f32 q
      rw [← y2, h.may ho.1 (Or.inr ⟨e, rfl, rfl⟩)] at q
      exact hn (f j) y1 q
theorem gPm.symm {f : Nat → Nat} (h : gPm f g1 g2) : gPm f g2 g1 := by
  refine ⟨h.1.symm, h.2.1.symm, h.2.2.1, fun j hj => ?_⟩
  rw [h.1] at hj
  have hfj := (h.lt j).mpr hj
  obtain ⟨-, a1, a2, a3, a4⟩ := h.2.2.2 (f j) hfj
  rw [h.2.2.1 j] at a1 a2 a3 a4
  exact ⟨by rw [h.1]; exact hfj, a1.symm, a2.symm, a3.symm, a4.symm⟩
theorem gQ.pm (h : gQ g g') : gPm id g g' := ⟨h.1, h.2.1, fun _ => rfl, fun j hj => ⟨hj, h.2.2 j hj⟩⟩
theorem gQ.lo (h : gQ g g') (hN : gN g ≤ 14) : gLo g' r ↔ gLo g r := ⟨fun q => h.pm.symm.lo (by rw [h.1]; exact hN) q, fun q => h.pm.lo hN q⟩
theorem gQ.add (h : gQ g g') (hN : 0 ≤ gN g ∧ gN g < 14) {a c e : Int} : gQ (gAdd g a c e) (gAdd g' a c e) := by
  obtain ⟨x1, x2, x3, n1, n2, n3, n4⟩ := gAdd_at (g := g) (a := a) (b := c) (c := e) hN
  have hN' : 0 ≤ gN g' ∧ gN g' < 14 := by rw [h.1]; exact hN
  obtain ⟨y1, y2, y3, k1, k2, k3, k4⟩ := gAdd_at (g := g') (a := a) (b := c) (c := e) hN'
  rw [h.1] at y1 y3 k1 k2 k3 k4
  refine ⟨by rw [x1, y1], ?_, fun k hk => ?_⟩
  · show gAdd g' a c e 73 = gAdd g a c e 73
    rw [x2 73 (by omega), y2 73 (by omega)]
    exact h.2.1
  · rw [x1] at hk
    by_cases q : (k : Int) < gN g
    · obtain ⟨a1, a2, a3, a4⟩ := x3 k q
      obtain ⟨b1, b2, b3, b4⟩ := y3 k q
      obtain ⟨c1, c2, c3, c4⟩ := h.2.2 k q
      exact ⟨by rw [a1, b1, c1], by rw [a2, b2, c2], by rw [a3, b3, c3], by rw [a4, b4, c4]⟩
    · rw [show k = (gN g).toNat by omega]
      exact ⟨by rw [n1, k1], by rw [n2, k2], by rw [n3, k3], by rw [n4, k4]⟩
/-- the door of a pair -/
def gA2 (g : zPg) (k : Nat) : zPg := gAdd g ((k / 10 : Nat) : Int) ((k % 10 : Nat) : Int) 0
def gSf (g : zPg) (rm : Int) : Prop := ∀ r : Int, 0 ≤ r → r < rm → ¬ gLo g r
def gVp (rm : Int) (k : Nat) : Prop := k < 100 ∧ k / 10 < k % 10 ∧ ((k % 10 : Nat) : Int) < rm
theorem gSf.q (h : gQ g g') (hN : gN g ≤ 14) : gSf g' rm ↔ gSf g rm := by
  unfold gSf
  constructor <;> intro q r r0 r1 z
  · exact q r r0 r1 ((h.lo hN).mpr z)
  · exact q r r0 r1 ((h.lo hN).mp z)
def swN (n j : Nat) : Nat := if j = n then n + 1 else if j = n + 1 then n else j
theorem swN_a {n j : Nat} (h : j = n) : swN n j = n + 1 := by unfold swN; rw [if_pos h]
theorem swN_b {n j : Nat} (h : j = n + 1) : swN n j = n := by unfold swN; rw [if_neg (by omega), if_pos h]
theorem swN_o {n j : Nat} (h : j ≠ n) (h' : j ≠ n + 1) : swN n j = j := by unfold swN; rw [if_neg h, if_neg h']
theorem gSf.swap (hD : gDo g) (hN : gN g + 1 < 14) {k k2 : Nat} (h : gSf (gA2 (gA2 g k) k2) rm) : gSf (gA2 (gA2 g k2) k) rm := by
  have hn := hD.1
  have hN0 : 0 ≤ gN g ∧ gN g < 14 := ⟨hn.1, by omega⟩
  obtain ⟨x1, x2, x3, xa, xb, xc, xx⟩ := gAdd_at (g := g) (a := ((k / 10 : Nat) : Int)) (b := ((k % 10 : Nat) : Int)) (c := 0) hN0
  obtain ⟨y1, y2, y3, ya, yb, yc, yx⟩ := gAdd_at (g := g) (a := ((k2 / 10 : Nat) : Int)) (b := ((k2 % 10 : Nat) : Int)) (c := 0) hN0
  have hNx : 0 ≤ gN (gA2 g k) ∧ gN (gA2 g k) < 14 := by show 0 ≤ gN (gAdd g _ _ _) ∧ gN (gAdd g _ _ _) < 14; rw [x1]; omega
  have hNy : 0 ≤ gN (gA2 g k2) ∧ gN (gA2 g k2) < 14 := by show 0 ≤ gN (gAdd g _ _ _) ∧ gN (gAdd g _ _ _) < 14; rw [y1]; omega
  obtain ⟨u1, u2, u3, ua, ub, uc, ux⟩ := gAdd_at (g := gA2 g k) (a := ((k2 / 10 : Nat) : Int)) (b := ((k2 % 10 : Nat) : Int)) (c := 0) hNx
  obtain ⟨v1, v2, v3, va, vb, vc, vx⟩ := gAdd_at (g := gA2 g k2) (a := ((k / 10 : Nat) : Int)) (b := ((k % 10 : Nat) : Int)) (c := 0) hNy
  have ex : gN (gA2 g k) = gN g + 1 := x1
  have ey : gN (gA2 g k2) = gN g + 1 := y1
  rw [ex] at u1 u3 ua ub uc ux
  rw [ey] at v1 v3 va vb vc vx
  have key : gPm (swN (gN g).toNat) (gA2 (gA2 g k2) k) (gA2 (gA2 g k) k2) := by
    refine ⟨?_, ?_, fun j => ?_, fun j hj => ?_⟩
    · show gN (gAdd (gA2 g k) _ _ _) = gN (gAdd (gA2 g k2) _ _ _)
      rw [u1, v1]
    · show gAdd (gA2 g k) _ _ _ 73 = gAdd (gA2 g k2) _ _ _ 73
      rw [u2 73 (by omega), v2 73 (by omega)]
      show gAdd g _ _ _ 73 = gAdd g _ _ _ 73
      rw [x2 73 (by omega), y2 73 (by omega)]
    · by_cases q1 : j = (gN g).toNat
      · rw [swN_a q1, swN_b rfl, q1]
      · by_cases q2 : j = (gN g).toNat + 1
        · rw [swN_b q2, swN_a rfl, q2]
        · rw [swN_o q1 q2, swN_o q1 q2]
    · have hj2 : (j : Int) < gN g + 1 + 1 := by
        have : gN (gA2 (gA2 g k2) k) = gN g + 1 + 1 := v1
        omega
      have e1 : gN (gA2 (gA2 g k2) k) = gN g + 1 + 1 := v1
      rw [e1]
      show ((swN (gN g).toNat j : Nat) : Int) < gN g + 1 + 1 ∧ gA (gAdd (gA2 g k) _ _ _) _ = gA (gAdd (gA2 g k2) _ _ _) _ ∧ gB (gAdd (gA2 g k) _ _ _) _ = gB (gAdd (gA2 g k2) _ _ _) _ ∧ gC (gAdd (gA2 g k) _ _ _) _ = gC (gAdd (gA2 g k2) _ _ _) _ ∧ gX (gAdd (gA2 g k) _ _ _) _ = gX (gAdd (gA2 g k2) _ _ _) _
      by_cases q1 : j = (gN g).toNat
      · rw [swN_a q1]
        obtain ⟨c1, c2, c3, c4⟩ := v3 j (by omega)
        rw [c1, c2, c3, c4, show (gN g).toNat + 1 = (gN g + 1).toNat by omega, ua, ub, uc, ux, q1]
        exact ⟨by omega, ya.symm, yb.symm, yc.symm, yx.symm⟩
      · by_cases q2 : j = (gN g).toNat + 1
        · rw [swN_b q2]
          obtain ⟨c1, c2, c3, c4⟩ := u3 (gN g).toNat (by omega)
          rw [c1, c2, c3, c4, q2, show (gN g).toNat + 1 = (gN g + 1).toNat by omega, va, vb, vc, vx]
          exact ⟨by omega, xa, xb, xc, xx⟩
        · rw [swN_o q1 q2]
          have hjN : (j : Int) < gN g := by omega
          obtain ⟨c1, c2, c3, c4⟩ := u3 j (by omega)
          obtain ⟨d1, d2, d3, d4⟩ := v3 j (by omega)
          obtain ⟨s1, s2, s3, s4⟩ := x3 j hjN
          obtain ⟨t1, t2, t3, t4⟩ := y3 j hjN
          rw [c1, c2, c3, c4, d1, d2, d3, d4]
          exact ⟨by omega, s1.trans t1.symm, s2.trans t2.symm, s3.trans t3.symm, s4.trans t4.symm⟩
  intro r r0 r1 z
  exact h r r0 r1 (key.lo (by have : gN (gA2 (gA2 g k2) k) = gN g + 1 + 1 := v1; omega) z)
/-- who is lost in a room stays so, where the door is built elsewhere -/
theorem gLo.add (hD : gDo g) (hN : gN g < 14) {a c e : Int} (ha : r ≠ a) (hc : r ≠ c) (h : gLo g r) : gLo (gAdd g a c e) r := by
  have hn := hD.1
  obtain ⟨x1, x2, x3, xa, xb, xc, xx⟩ := gAdd_at (g := g) (a := a) (b := c) (c := e) ⟨hn.1, hN⟩
  have eL : gL (gAdd g a c e) = gL g := x2 73 (by omega)
  have hO : ∀ {q : Int} {j : Nat}, gO g q j → gO (gAdd g a c e) q j := by
    intro q j ho
    obtain ⟨a1, a2, a3, a4⟩ := x3 j ho.1
    unfold gO
    rw [x1, a1, a2, a4]
    exact ⟨by have := ho.1; omega, ho.2⟩
  have hOr : ∀ {j : Nat}, gO (gAdd g a c e) r j → gO g r j := by
    intro j ho
    obtain ⟨o1, o2, o3⟩ := ho
    rw [x1] at o1
    by_cases q : (j : Int) < gN g
    · obtain ⟨a1, a2, a3, a4⟩ := x3 j q
      rw [a4] at o2
      rw [a1, a2] at o3
      exact ⟨q, o2, o3⟩
    · rw [show j = (gN g).toNat by omega, xa, xb] at o3
      rcases o3 with z | z
      · exact absurd z.symm ha
      · exact absurd z.symm hc
  have hm : ∀ {l : Nat} {x : Int} {j : Nat}, (l : Int) < gN g → gMay (gAdd g a c e) r (l : Int) x j → gMay g r (l : Int) x j := by
    intro l x j hl hmay
    have ho := hOr hmay.1
    refine ⟨ho, fun q => hmay.2 ?_⟩
    obtain ⟨-, -, a3, -⟩ := x3 j ho.1
    obtain ⟨-, -, b3, -⟩ := x3 l hl
    unfold gBar at q ⊢
    rw [Int.toNat_natCast] at q ⊢
    rw [eL, a3, b3]
    exact q
  rcases h with ⟨k, ho, hnn⟩ | ⟨hL, k, ho, x, hx, hxk, hnn⟩
  · exact Or.inl ⟨k, hO ho, fun j hj q => hnn j hj (hm ho.1 q)⟩
  · right
    refine ⟨by rw [eL]; exact hL, k, hO ho, x, ?_, hxk, fun j hj q => hnn j hj (hm ho.1 q)⟩
    obtain ⟨a1, a2, -, -⟩ := x3 k ho.1
    rw [a1, a2]
    exact hO hx
/-- the answer of mend: how many, the first, the second one -/
def gS2 (g : zPg) (rm : Int) (k s : Nat) : Prop := gVp rm k ∧ gVp rm s ∧ gSf (gA2 (gA2 g k) s) rm
def gS1 (g : zPg) (rm : Int) (k : Nat) : Prop := gVp rm k ∧ gSf (gA2 g k) rm
def gMd (g : zPg) (rm n f s : Int) : Prop :=
  (gSf g rm ∧ n = 0 ∧ f = -4 ∧ s = -4) ∨
  (¬ gSf g rm ∧ gN g < 14 ∧ n = 1 ∧ s = -4 ∧ ∃ k : Nat, f = k ∧ gS1 g rm k ∧ ∀ j, j < k → ¬ gS1 g rm j) ∨
  (¬ gSf g rm ∧ (gN g < 14 → ∀ j, ¬ gS1 g rm j) ∧ gN g + 1 < 14 ∧ n = 2 ∧ ∃ k x : Nat, f = k ∧ s = x ∧ gS2 g rm k x ∧ (∀ j, j < k → ∀ y, ¬ gS2 g rm j y) ∧ ∀ y, y < x → ¬ gS2 g rm k y) ∨
  (¬ gSf g rm ∧ (gN g < 14 → ∀ j, ¬ gS1 g rm j) ∧ (gN g + 1 < 14 → ∀ j y, ¬ gS2 g rm j y) ∧ n = -4 ∧ f = -4 ∧ s = -4)
theorem gMd_fn {n f s n' f' s' : Int} (h : gMd g rm n f s) (h' : gMd g rm n' f' s') : n = n' ∧ f = f' ∧ s = s' := by
  rcases h with ⟨a1, a2, a3, a4⟩ | ⟨a1, a2, a3, a4, k, a5, a6, a7⟩ | ⟨a1, a2, a3, a4, k, x, a5, a6, a7, a8, a9⟩ | ⟨a1, a2, a3, a4, a5, a6⟩ <;>
  rcases h' with ⟨b1, b2, b3, b4⟩ | ⟨b1, b2, b3, b4, k', b5, b6, b7⟩ | ⟨b1, b2, b3, b4, k', x', b5, b6, b7, b8, b9⟩ | ⟨b1, b2, b3, b4, b5, b6⟩
  · omega
  · exact absurd a1 b1
  · exact absurd a1 b1
  · exact absurd a1 b1
  · exact absurd b1 a1
  · have : k = k' := by
      rcases Nat.lt_trichotomy k k' with q | q | q
      · exact absurd a6 (b7 k q)
      · exact q
      · exact absurd b6 (a7 k' q)
    omega
  · exact absurd a6 (b2 a2 k)
  · exact absurd a6 (b2 a2 k)
  · exact absurd b1 a1
  · exact absurd b6 (a2 b2 k')
  · have hk : k = k' := by
      rcases Nat.lt_trichotomy k k' with q | q | q
      · exact absurd a7 (b8 k q x)
      · exact q
      · exact absurd b7 (a8 k' q x')
    subst hk
    have : x = x' := by
      rcases Nat.lt_trichotomy x x' with q | q | q
      · exact absurd a7 (b9 x q)
      · exact q
      · exact absurd b7 (a9 x' q)
    omega
  · exact absurd a7 (b3 a3 k x)
  · exact absurd b1 a1
  · exact absurd b6 (a2 b2 k')
  · exact absurd b7 (a3 b3 k' x')
  · omega
end
