section
/-! The reference: talk and cup. -/
variable {d w : Nat} {mem m m' m2 : zMem} {Q : Int → zMem → Prop} {q q' : Nat → Nat} {D D' : Nat → Int} {n k x : Nat} {s0 T : Nat → Prop} {stp : Nat → Nat → Prop} {P P' : Nat → Prop} {y0 z : Nat} {g : zPg} {pl pl' : Int}
def s0T (g : zPg) (A B : Int) (y : Nat) : Prop := y = cd A B (if pR g A = pR g B then 1 else 0)
theorem pOf_15 {rm : Int} (hD : gDo g) (hL : gL g ≠ 1) (hrm : rm ≤ 10) {p : Nat} (hW : gWk g rm p) : c15 g (pOf g p) := by
  refine ⟨(pOf_ok hD hrm hW).1, ?_⟩
  unfold pOf pMk gBf
  rw [if_neg hL]
  split <;> simp <;> omega
theorem c_Mo_talk {a b c : Int} (hI : Ipal mem) (hB : ¬ ((0 ≤ a ∧ a < gP (mem 123)) ∧ (0 ≤ b ∧ b < gP (mem 123)) ∧ a ≠ b ∧ (1 ≤ c ∧ c ≤ 5)) → Q (-1) mem) (hS : gL (mem 123) = 1 → (0 ≤ a ∧ a < gP (mem 123)) → (0 ≤ b ∧ b < gP (mem 123)) → a ≠ b → (1 ≤ c ∧ c ≤ 5) → Q (-2) mem) (hQ : gL (mem 123) ≠ 1 → (0 ≤ a ∧ a < gP (mem 123)) → (0 ≤ b ∧ b < gP (mem 123)) → a ≠ b → (1 ≤ c ∧ c ≤ 5) → ∀ (v : Int) (m' : zMem), wkA (s0T (mem 123) (pOf (mem 123) a.toNat) (pOf (mem 123) b.toNat)) (stT (mem 123) c.toNat) (fun y => y % 6 = c.toNat) v → tFr mem m' → Q v m') : zC (d + 9) K_Mo_talk [(2, Int.ofNat 122), (0, a), (0, b), (0, c)] mem Q := by
  obtain ⟨⟨w1, w2, w3, w4, w5, w6, w7⟩, hP⟩ := id hI
  have hP0 : gP (mem 123) = mem 123 72 := rfl
  refine v_Mo_talk (c_Mo_isOne (d := d + 6) (by omega) (fun c1 => ⟨fun q => absurd q (by decide), fun _ => ?_⟩) (fun c1 => ⟨fun _ => hB (fun z => c1 (by rw [← hP0]; exact z.1)), fun q => absurd rfl q⟩))
  refine c_Mo_isOne (d := d + 6) (by omega) (fun c2 => ⟨fun q => absurd q (by decide), fun _ => ?_⟩) (fun c2 => ⟨fun _ => hB (fun z => c2 (by rw [← hP0]; exact z.2.1)), fun q => absurd rfl q⟩)
  refine ⟨fun e => hB (fun z => z.2.2.1 e), fun hne => ?_⟩
  refine c_Mo_in (d := d + 7) (fun c3 => ⟨fun _ => ⟨fun hL => ?_, fun hL => hS hL c1 c2 hne c3⟩, fun q => absurd q (by decide)⟩) (fun c3 => ⟨fun q => absurd rfl q, fun _ => hB (fun z => c3 z.2.2.2)⟩)
  have hL' : gL (mem 123) ≠ 1 := hL
  have hQ := hQ hL' c1 c2 hne c3
  obtain ⟨kk, rfl⟩ : ∃ kk : Nat, c = (kk : Int) := ⟨c.toNat, by omega⟩
  rw [Int.toNat_natCast] at hQ
  have hWa := w5 a.toNat (by omega)
  have hWb := w5 b.toNat (by omega)
  have cA := pOf_15 w1 hL' w2.2 hWa
  have cB := pOf_15 w1 hL' w2.2 hWb
  generalize hA : pOf (mem 123) a.toNat = A at cA hQ
  generalize hBb : pOf (mem 123) b.toNat = B at cB hQ
  have hIw : ∀ j y, wk (s0T (mem 123) A B) (stT (mem 123) kk) j y → iT (mem 123) kk y := wk_I (fun y hy => by
    obtain ⟨b1, b2, b3, b4⟩ := cd_at (l := if pR (mem 123) A = pR (mem 123) B then 1 else 0) cA cB (by split <;> omega)
    rw [show y = _ from hy]
    refine ⟨by rw [b2]; exact cA, by rw [b3]; exact cB, ?_⟩
    rw [b4]
    split <;> omega) (fun y y' h1 h2 => (h2.ok w1 hL' (by omega) h1).1)
  have loop : ∀ (n x : Nat) (m : zMem), x + n = 8664 → (∃ n q D, tQ m n q D ∧ qS (s0T (mem 123) A B) (stT (mem 123) kk) (fun y => y % 6 = kk) n q D x (fun _ => False) ∧ ∀ i, i < n → D (q i) ≤ i) → tFr mem m → zG (d + 9) M_Mo_talk 119 [(2, Int.ofNat 122), (9, 0), (9, 0), (0, (kk : Int)), (9, 0), (9, 0), (0, (x : Int)), (9, 0)] [] m Q := by
    intro n
    induction n with
    | zero =>
      rintro x m hx ⟨n, q, D, t, hq, hd⟩ hf
      obtain ⟨t1, t2, t3, t4, t5⟩ := id t
      have hxn := hq.1
      refine v_Mo_talk_119 ⟨fun c => ?_, fun c => by omega⟩
      rw [show x = n by omega] at hq
      exact hQ _ _ hq.none hf
    | succ n ih =>
      rintro x m hx ⟨n', q, D, t, hq, hd⟩ hf
      obtain ⟨t1, t2, t3, t4, t5⟩ := id t
      have hxn := hq.1
      refine v_Mo_talk_119 ⟨fun c => ?_, fun c => ⟨by omega, fun x1 e1 => ?_⟩⟩
      · rw [show x = n' by omega] at hq
        exact hQ _ _ hq.none hf
      · have hx' : x < n' := by omega
        obtain ⟨b1, b2, b3⟩ := t3 x hx'
        rw [Int.toNat_natCast, b1] at e1
        rw [e1, zr (by omega) (by omega), Int.toNat_natCast]
        obtain ⟨j, j1, j2⟩ := hq.2.1 x hx'
        have hi := hIw j _ j2
        refine ⟨fun c5 => ?_, fun c5 => ⟨by omega, ?_⟩⟩
        · have e3 := hf.pg
          have hi6 := hi.2.2
          have hJ : tJ (s0T (m 123) A B) (stT (m 123) kk) (fun y => y % 6 = kk) m x (q x) (fun _ => False) := by
            rw [e3]
            exact ⟨n', q, D, t, hq, hx', rfl, hd⟩
          refine c_Mo_layTalk (d := d) (by rw [e3]; exact w1) (by rw [e3]; exact hL') (by omega) (by rw [e3]; exact hi) (by omega) hJ (fun m' hJ' hf' x3 ex => ?_)
          rw [za (by omega)] at ex
          rw [ex]
          rw [e3] at hJ'
          obtain ⟨n2, q2, D2, u1, u2, u3, u4, u5⟩ := hJ'
          refine ih (x + 1) m' (by omega) ⟨n2, q2, D2, u1, u2.next u3 (by rw [u4]; omega) (by rw [u4]; exact fun _ h => h), u5⟩ (hf.trans hf')
        · rw [(t5 _ b2).1]
          exact hQ _ _ (hq.hit hx' (by show q x % 6 = kk; omega)) hf
  refine c_Mo_beginsTwo (d := d + 7) (fun m4 t4 f4 => ?_)
  have e4 : m4 123 = mem 123 := f4.pg
  refine c_Mo_placeOfOne (rm := mem 122 1) (d := d + 6) (by rw [e4]; exact w1) w2.2 (a := a) (by omega) (by rw [e4]; exact hWa) (fun x6 e6 => ?_)
  refine c_Mo_placeOfOne (rm := mem 122 1) (d := d + 6) (by rw [e4]; exact w1) w2.2 (a := b) (by omega) (by rw [e4]; exact hWb) (fun x8 e8 => ?_)
  rw [e4, hA] at e6
  rw [e4, hBb] at e8
  obtain ⟨⟨a1, a2, -⟩, a3⟩ := id cA
  obtain ⟨⟨b1, b2, -⟩, b3⟩ := id cB
  rw [zd (by omega) (by omega)] at e6 e8
  have f6 : zmul 15 x6 = A := by rw [zm (by omega)]; omega
  have f8 : zmul 15 x8 = B := by rw [zm (by omega)]; omega
  rw [f6, f8]
  refine c_Mo_roomAt (d := d + 7) ⟨a1, a2⟩ (c_Mo_roomAt (d := d + 7) ⟨b1, b2⟩ ?_)
  rw [e4]
  have h0 : tI (s0T (mem 123) A B) m4 (fun _ => False) := ⟨0, _, _, t4, fun i hi => absurd hi (Nat.not_lt_zero _), fun y hy => hy.elim⟩
  have go : ∀ l : Nat, l = (if pR (mem 123) A = pR (mem 123) B then 1 else 0) → zC (d + 8) K_Mo_findsTwo [(2, Int.ofNat 122), (0, zadd (zmul 6 (zadd (zmul 38 x6) x8)) (l : Int)), (0, 0)] m4 (fun r11 m9 => zG (d + 9) M_Mo_talk 119 [(2, Int.ofNat 122), (9, 0), (9, 0), (0, (kk : Int)), (9, 0), (9, 0), (0, 0), (9, 0)] [] m9 Q) := by
    intro l hl
    have hl6 : l < 6 := by rw [hl]; split <;> omega
    have he := cd_e cA cB hl6
    rw [zd (x := A) (by omega) (by omega), zd (x := B) (by omega) (by omega), ← e6, ← e8] at he
    rw [he]
    refine h0.find (d := d + 7) (by rw [hl]; rfl) (cd_at cA cB hl6).1 (fun m' hI' hf' => ?_)
    refine loop 8664 0 m' (by omega) (tI.begin_ ?_) (f4.trans hf')
    obtain ⟨n, q, D, i1, i2, i3⟩ := hI'
    exact ⟨n, q, D, i1, i2, fun y hy => i3 y (Or.inr (by rw [hl]; exact hy))⟩
  exact ⟨fun c5 => go 0 (by rw [if_neg c5]), fun c5 => go 1 (by rw [if_pos c5])⟩
/-! cup -/
def s0C (g : zPg) (A B : Int) (y : Nat) : Prop := y = cd A B 0 ∨ (pR g A = pR g B ∧ y = cd A B 1)
def stC (g : zPg) (y y' : Nat) : Prop := ∃ (ta tb : Int) (l : Nat), pdn g (pa y) ta ∧ pdn g (pb y) tb ∧ (l = y % 6 ∨ (pR g ta = pR g tb ∧ l = 1 - y % 6)) ∧ y' = cd ta tb l
def tC (g : zPg) (r : Int) (y : Nat) : Prop := pR g (if y % 6 = 0 then pa y else pb y) = r
theorem stC.ok (hD : gDo g) (hL : gL g ≠ 1) {y y' : Nat} (h : iT g 1 y) (hs : stC g y y') : iT g 1 y' ∧ y' < 8664 := by
  obtain ⟨ta, tb, l, h2, h3, h5, h4⟩ := hs
  have ha := h2.ok hD hL h.1
  have hb := h3.ok hD hL h.2.1
  have h6 := h.2.2
  have hl : l ≤ 1 := by omega
  obtain ⟨b1, b2, b3, b4⟩ := cd_at (l := l) ha hb (by omega)
  rw [h4]
  exact ⟨⟨by rw [b2]; exact ha, by rw [b3]; exact hb, by omega⟩, b1⟩
theorem c_Mo_findsCup (hD : gDo (mem 123)) (hL : gL (mem 123) ≠ 1) (hi : iT (mem 123) 1 y0) {ta tb : Int} (da : pdn (mem 123) (pa y0) ta) (db : pdn (mem 123) (pb y0) tb) (hJ : tJ s0 (stC (mem 123)) T mem k y0 P) (hQ : ∀ m' : zMem, tJ s0 (stC (mem 123)) T m' k y0 (fun y => P y ∨ ∃ l, (l = y0 % 6 ∨ (pR (mem 123) ta = pR (mem 123) tb ∧ l = 1 - y0 % 6)) ∧ y = cd ta tb l) → tFr mem m' → Q 0 m') : zC (d + 2) K_Mo_findsCup [(2, Int.ofNat 122), (0, ta), (0, tb), (0, ((y0 % 6 : Nat) : Int)), (0, mem 137 y0 + 1)] mem Q := by
  obtain ⟨ca, cb, h6⟩ := id hi
  have oa := da.ok hD hL ca
  have ob := db.ok hD hL cb
  have he := cd_e oa ob (show y0 % 6 < 6 by omega)
  have he2 := cd_e oa ob (show 1 - y0 % 6 < 6 by omega)
  refine v_Mo_findsCup fun x1 e1 => ?_
  rw [← e1] at he he2
  rw [he]
  have s1 : stC (mem 123) y0 (cd ta tb (y0 % 6)) := ⟨ta, tb, _, da, db, Or.inl rfl, rfl⟩
  refine hJ.find (d := d) s1 (s1.ok hD hL hi).2 (fun m' hJ' hf' h137 => ?_)
  have e3 := hf'.pg
  refine c_Mo_roomAt (d := d) ⟨oa.1.1, oa.1.2.1⟩ (c_Mo_roomAt (d := d) ⟨ob.1.1, ob.1.2.1⟩ ?_)
  rw [e3]
  refine ⟨fun c5 => hQ m' (hJ'.cg ?_) hf', fun c5 => ?_⟩
  · rintro y (hy | ⟨l, h1 | h1, h2⟩)
    · exact Or.inl hy
    · right; rw [h2, h1]
    · exact absurd h1.1 c5
  · have s2 : stC (mem 123) y0 (cd ta tb (1 - y0 % 6)) := ⟨ta, tb, _, da, db, Or.inr ⟨c5, rfl⟩, rfl⟩
    have e5 : zsub (zadd x1 1) ((y0 % 6 : Nat) : Int) = ((cd ta tb (1 - y0 % 6) : Nat) : Int) := by
      have hx : x1 = ((cd ta tb 0 : Nat) : Int) := by
        have := cd_e oa ob (show 0 < 6 by omega)
        rw [← e1, za (by
          obtain ⟨⟨q1, q2, -⟩, -⟩ := oa
          obtain ⟨⟨q3, q4, -⟩, -⟩ := ob
          rw [e1, zd (x := ta) (by omega) (by omega), zd (x := tb) (by omega) (by omega), zm (x := 38) (by omega), za (x := 38 * (ta / 15)) (by omega), zm (by omega)]
          omega)] at this
        omega
      have hl := (cd_at oa ob (show 0 < 6 by omega)).1
      rw [hx, za (by omega), zs (by omega)]
      unfold cd
      omega
    rw [e5]
    rw [← h137]
    have s2' : stC (mem 123) y0 (cd ta tb (1 - y0 % 6)) := s2
    refine hJ'.find (d := d) s2' (s2.ok hD hL hi).2 (fun m2 hJ2 hf2 _ => hQ m2 (hJ2.cg ?_) (hf'.trans hf2))
    rintro y (hy | ⟨l, h1 | h1, h2⟩)
    · exact Or.inl (Or.inl hy)
    · left; right; rw [h2, h1]
    · right; rw [h2, h1.2]
theorem l_Mo_cup (hD : gDo (mem 123)) (hL : gL (mem 123) ≠ 1) (hi : iT (mem 123) 1 y0) {c x : Int} (h : tJ s0 (stC (mem 123)) T mem k y0 (fun _ => False)) (hQ : ∀ m' : zMem, tJ s0 (stC (mem 123)) T m' k y0 (fun y => stC (mem 123) y0 y) → tFr mem m' → ∀ x2 : Int, x2 = zadd x 1 → zG (d + 8) M_Mo_cup 68 [(2, Int.ofNat 122), (9, 0), (9, 0), (0, c), (0, x2), (9, 0), (9, 0), (9, 0), (9, 0), (9, 0), (9, 0), (9, 0)] [] m' Q) : zG (d + 8) M_Mo_cup 146 [(2, Int.ofNat 122), (9, 0), (9, 0), (0, c), (0, x), (0, (y0 : Int)), (0, pa y0), (0, pb y0), (0, 0), (9, 0), (9, 0), (9, 0)] [] mem Q := by
  obtain ⟨ca, cb, h61⟩ := id hi
  have ha0 := ca.1.1
  have hb0 := cb.1.1
  have h0 := h.at_
  have hN := hD.1
  have hst : 1 ≤ st (mem 123) ∧ st (mem 123) ≤ 14 := by unfold st; split <;> omega
  let F : Nat → Nat → Nat → Prop := fun a b y => dB (mem 123) (pa y0) a ≠ -4 ∧ dB (mem 123) (pb y0) b ≠ -4 ∧ ∃ l, (l = y0 % 6 ∨ (pR (mem 123) (dB (mem 123) (pa y0) a) = pR (mem 123) (dB (mem 123) (pb y0) b) ∧ l = 1 - y0 % 6)) ∧ y = cd (dB (mem 123) (pa y0) a) (dB (mem 123) (pb y0) b) l
  have inner : ∀ (i : Nat), (∀ m : zMem, tJ s0 (stC (mem 123)) T m k y0 (lP (st (mem 123)) F (i + 1) 0) → tFr mem m → zG (d + 8) M_Mo_cup 146 [(2, Int.ofNat 122), (9, 0), (9, 0), (0, c), (0, x), (0, (y0 : Int)), (0, pa y0), (0, pb y0), (0, ((i + 1 : Nat) : Int)), (9, 0), (9, 0), (9, 0)] [] m Q) → (i : Int) < st (mem 123) → ∀ (n j : Nat) (m : zMem), (j : Int) + n = st (mem 123) → tJ s0 (stC (mem 123)) T m k y0 (lP (st (mem 123)) F i j) → tFr mem m → zG (d + 8) M_Mo_cup 170 [(2, Int.ofNat 122), (9, 0), (9, 0), (0, c), (0, x), (0, (y0 : Int)), (0, pa y0), (0, pb y0), (0, (i : Int)), (0, dB (mem 123) (pa y0) i), (0, (j : Int)), (9, 0)] [] m Q := by
    intro i hnx hi' n
    have nx : ∀ (j : Nat) (m : zMem), (st (mem 123) ≤ j ∨ ∀ y b, ¬ F i b y) → tJ s0 (stC (mem 123)) T m k y0 (lP (st (mem 123)) F i j) → tFr mem m → ∀ x2 : Int, x2 = zadd i 1 → zG (d + 8) M_Mo_cup 146 [(2, Int.ofNat 122), (9, 0), (9, 0), (0, c), (0, x), (0, (y0 : Int)), (0, pa y0), (0, pb y0), (0, x2), (9, 0), (9, 0), (9, 0)] [] m Q := by
      intro j m hj hJ hf x2 e2
      rw [za (by omega)] at e2
      rw [e2]
      exact hnx m (hJ.cg (fun y hy => lP_i (by rcases hj with q | q; exact Or.inl q; exact Or.inr (q y)) hy)) hf
    induction n with
    | zero =>
      intro j m hj hJ hf
      have e3 := hf.pg
      refine v_Mo_cup_170 (c_Mo_stays (d := d + 5) ?_)
      rw [e3]
      exact ⟨fun c => nx j m (Or.inl c) hJ hf, fun c => by omega⟩
    | succ n ih =>
      intro j m hj hJ hf
      have e3 := hf.pg
      refine v_Mo_cup_170 (c_Mo_stays (d := d + 5) ?_)
      rw [e3]
      refine ⟨fun c => by omega, fun c => ⟨fun c1 => nx j m (Or.inr (fun y b q => q.1 c1)) hJ hf, fun c1 => ?_⟩⟩
      refine c_Mo_doneBy (d := d + 1) (pl := pb y0) (by rw [e3]; exact cb.1) (by rw [e3]; exact hD) (by rw [e3]; exact c) ?_
      rw [e3]
      refine ⟨fun c2 x5 e5 => ?_, fun c2 => ?_⟩
      · rw [za (by omega)] at e5
        rw [e5]
        refine ih (j + 1) m (by omega) (hJ.cg (fun y hy => ?_)) hf
        rcases lP_j hy with q | q
        · exact q
        · exact absurd c2 q.2.1
      · have da := dB_pdn ha0 c1
        have db := dB_pdn hb0 c2
        have hat := hJ.at_
        refine ⟨by omega, ?_⟩
        rw [Int.toNat_natCast, zr (by omega) (by omega), za (by omega), show ((y0 : Int) % 6) = ((y0 % 6 : Nat) : Int) by omega]
        have hJ2 : tJ s0 (stC (m 123)) T m k y0 (lP (st (mem 123)) F i j) := by rw [e3]; exact hJ
        refine c_Mo_findsCup (d := d + 5) (by rw [e3]; exact hD) (by rw [e3]; exact hL) (by rw [e3]; exact hi) (by rw [e3]; exact da) (by rw [e3]; exact db) hJ2 (fun m' hJ' hf' x9 e9 => ?_)
        rw [za (by omega)] at e9
        rw [e9]
        rw [e3] at hJ'
        refine ih (j + 1) m' (by omega) (hJ'.cg (fun y hy => ?_)) (hf.trans hf')
        rcases lP_j hy with q | q
        · exact Or.inl q
        · right; exact q.2.2
  have outer : ∀ (n i : Nat) (m : zMem), (i : Int) + n = st (mem 123) → tJ s0 (stC (mem 123)) T m k y0 (lP (st (mem 123)) F i 0) → tFr mem m → zG (d + 8) M_Mo_cup 146 [(2, Int.ofNat 122), (9, 0), (9, 0), (0, c), (0, x), (0, (y0 : Int)), (0, pa y0), (0, pb y0), (0, (i : Int)), (9, 0), (9, 0), (9, 0)] [] m Q := by
    intro n
    induction n with
    | zero =>
      intro i m hi' hJ hf
      have e3 := hf.pg
      refine v_Mo_cup_146 (c_Mo_stays (d := d + 5) ?_)
      rw [e3]
      refine ⟨fun c => hQ m (hJ.cg (fun y hy => ?_)) hf, fun c => by omega⟩
      obtain ⟨ta, tb, l, h1, h2, h3⟩ := hy
      obtain ⟨a, a1, a2, a3⟩ := pdn_dB ha0 hD (h1.ok hD hL ca) h1
      obtain ⟨b, b1, b2, b3⟩ := pdn_dB hb0 hD (h2.ok hD hL cb) h2
      exact ⟨a, b, by omega, b1, a3, b3, l, by rw [a2, b2]; exact h3⟩
    | succ n ih =>
      intro i m hi' hJ hf
      have e3 := hf.pg
      refine v_Mo_cup_146 (c_Mo_stays (d := d + 5) ?_)
      rw [e3]
      refine ⟨fun c => by omega, fun c => ?_⟩
      refine c_Mo_doneBy (d := d + 1) (pl := pa y0) (by rw [e3]; exact ca.1) (by rw [e3]; exact hD) (by rw [e3]; exact c) ?_
      rw [e3]
      exact inner i (fun m' hJ' hf' => ih (i + 1) m' (by omega) hJ' hf') c (st (mem 123)).toNat 0 m (by omega) hJ hf
  exact outer (st (mem 123)).toNat 0 mem (by omega) (h.cg (fun y hy => by obtain ⟨a, b, h1, -⟩ := hy; omega)) tFr.refl
theorem c_Mo_cup {a b c : Int} (hI : Ipal mem) (hB : ¬ ((0 ≤ a ∧ a < gP (mem 123)) ∧ (0 ≤ b ∧ b < gP (mem 123)) ∧ a ≠ b ∧ (0 ≤ c ∧ c < mem 122 1)) → Q (-1) mem) (hS : gL (mem 123) = 1 → (0 ≤ a ∧ a < gP (mem 123)) → (0 ≤ b ∧ b < gP (mem 123)) → a ≠ b → (0 ≤ c ∧ c < mem 122 1) → Q (-2) mem) (hQ : gL (mem 123) ≠ 1 → (0 ≤ a ∧ a < gP (mem 123)) → (0 ≤ b ∧ b < gP (mem 123)) → a ≠ b → (0 ≤ c ∧ c < mem 122 1) → ∀ (v : Int) (m' : zMem), wkA (s0C (mem 123) (pOf (mem 123) a.toNat) (pOf (mem 123) b.toNat)) (stC (mem 123)) (tC (mem 123) c) v → tFr mem m' → Q v m') : zC (d + 9) K_Mo_cup [(2, Int.ofNat 122), (0, a), (0, b), (0, c)] mem Q := by
  obtain ⟨⟨w1, w2, w3, w4, w5, w6, w7⟩, hP⟩ := id hI
  have hP0 : gP (mem 123) = mem 123 72 := rfl
  refine v_Mo_cup (c_Mo_isOne (d := d + 6) (by omega) (fun c1 => ⟨fun q => absurd q (by decide), fun _ => ?_⟩) (fun c1 => ⟨fun _ => hB (fun z => c1 (by rw [← hP0]; exact z.1)), fun q => absurd rfl q⟩))
  refine c_Mo_isOne (d := d + 6) (by omega) (fun c2 => ⟨fun q => absurd q (by decide), fun _ => ?_⟩) (fun c2 => ⟨fun _ => hB (fun z => c2 (by rw [← hP0]; exact z.2.1)), fun q => absurd rfl q⟩)
  refine ⟨fun e => hB (fun z => z.2.2.1 e), fun hne => ?_⟩
  refine c_Mo_isRoom (d := d + 6) (by omega) (fun c3 => ⟨fun _ => ⟨fun hL => ?_, fun hL => hS hL c1 c2 hne c3⟩, fun q => absurd q (by decide)⟩) (fun c3 => ⟨fun q => absurd rfl q, fun _ => hB (fun z => c3 z.2.2.2)⟩)
  have hL' : gL (mem 123) ≠ 1 := hL
  have hQ := hQ hL' c1 c2 hne c3
  have hWa := w5 a.toNat (by omega)
  have hWb := w5 b.toNat (by omega)
  have cA := pOf_15 w1 hL' w2.2 hWa
  have cB := pOf_15 w1 hL' w2.2 hWb
  generalize hA : pOf (mem 123) a.toNat = A at cA hQ
  generalize hBb : pOf (mem 123) b.toNat = B at cB hQ
  have hIw : ∀ j y, wk (s0C (mem 123) A B) (stC (mem 123)) j y → iT (mem 123) 1 y := wk_I (fun y hy => by
    have key : ∀ l : Nat, l ≤ 1 → iT (mem 123) 1 (cd A B l) := by
      intro l hl
      obtain ⟨b1, b2, b3, b4⟩ := cd_at (l := l) cA cB (by omega)
      exact ⟨by rw [b2]; exact cA, by rw [b3]; exact cB, by omega⟩
    rcases hy with hy | ⟨-, hy⟩
    · rw [hy]; exact key 0 (by omega)
    · rw [hy]; exact key 1 (by omega)) (fun y y' h1 h2 => (h2.ok w1 hL' h1).1)
  have loop : ∀ (n x : Nat) (m : zMem), x + n = 8664 → (∃ n q D, tQ m n q D ∧ qS (s0C (mem 123) A B) (stC (mem 123)) (tC (mem 123) c) n q D x (fun _ => False) ∧ ∀ i, i < n → D (q i) ≤ i) → tFr mem m → zG (d + 9) M_Mo_cup 68 [(2, Int.ofNat 122), (9, 0), (9, 0), (0, c), (0, (x : Int)), (9, 0), (9, 0), (9, 0), (9, 0), (9, 0), (9, 0), (9, 0)] [] m Q := by
    intro n
    induction n with
    | zero =>
      rintro x m hx ⟨n, q, D, t, hq, hd⟩ hf
      obtain ⟨t1, t2, t3, t4, t5⟩ := id t
      have hxn := hq.1
      refine v_Mo_cup_68 ⟨fun c => ?_, fun c => by omega⟩
      rw [show x = n by omega] at hq
      exact hQ _ _ hq.none hf
    | succ n ih =>
      rintro x m hx ⟨n', q, D, t, hq, hd⟩ hf
      obtain ⟨t1, t2, t3, t4, t5⟩ := id t
      have hxn := hq.1
      refine v_Mo_cup_68 ⟨fun c => ?_, fun c5 => ⟨by omega, fun x1 e1 x2 e2 x3 e3' => ?_⟩⟩
      · rw [show x = n' by omega] at hq
        exact hQ _ _ hq.none hf
      · have hx' : x < n' := by omega
        obtain ⟨b1, b2, b3⟩ := t3 x hx'
        rw [Int.toNat_natCast, b1] at e1
        have ex2 : x2 = pa (q x) := by
          rw [e2, e1, zd (x := (q x : Int)) (by omega) (by omega), zd (by omega) (by omega), zm (by omega)]
          unfold pa
          omega
        have ex3 : x3 = pb (q x) := by
          rw [e3', e1, zd (x := (q x : Int)) (by omega) (by omega), zr (by omega) (by omega), zm (by omega)]
          unfold pb
          omega
        rw [e1, zr (by omega) (by omega), ex2, ex3]
        obtain ⟨j, j1, j2⟩ := hq.2.1 x hx'
        have hi := hIw j _ j2
        have e3 := hf.pg
        have ex : ∀ r : Int, r = pR (mem 123) (if q x % 6 = 0 then pa (q x) else pb (q x)) → ((r ≠ c → zG (d + 9) M_Mo_cup 146 [(2, Int.ofNat 122), (9, 0), (9, 0), (0, c), (0, (x : Int)), (0, (q x : Int)), (0, pa (q x)), (0, pb (q x)), (0, 0), (9, 0), (9, 0), (9, 0)] [] m Q) ∧ (r = c → ((0 ≤ (q x : Int) ∧ (q x : Int) < 8664) ∧ Q (m 137 (q x : Int).toNat) m))) := by
          intro r hr
          refine ⟨fun c6 => ?_, fun c6 => ⟨by omega, ?_⟩⟩
          · have hJ : tJ (s0C (m 123) A B) (stC (m 123)) (tC (m 123) c) m x (q x) (fun _ => False) := by
              rw [e3]
              exact ⟨n', q, D, t, hq, hx', rfl, hd⟩
            refine l_Mo_cup (d := d + 1) (by rw [e3]; exact w1) (by rw [e3]; exact hL') (by rw [e3]; exact hi) hJ (fun m' hJ' hf' x3 ex => ?_)
            rw [za (by omega)] at ex
            rw [ex]
            rw [e3] at hJ'
            obtain ⟨n2, q2, D2, u1, u2, u3, u4, u5⟩ := hJ'
            exact ih (x + 1) m' (by omega) ⟨n2, q2, D2, u1, u2.next u3 (by rw [u4]; exact fun h => c6 (hr.trans h)) (by rw [u4]; exact fun _ h => h), u5⟩ (hf.trans hf')
          · rw [Int.toNat_natCast, (t5 _ b2).1]
            exact hQ _ _ (hq.hit hx' (hr.symm.trans c6)) hf
        obtain ⟨o1, o2, -⟩ := hi
        refine ⟨fun c6 => c_Mo_roomAt (d := d + 7) ⟨o2.1.1, o2.1.2.1⟩ (ex _ ?_), fun c6 => c_Mo_roomAt (d := d + 7) ⟨o1.1.1, o1.1.2.1⟩ (ex _ ?_)⟩
        · rw [e3, if_neg (by omega)]
        · rw [e3, if_pos (by omega)]
  refine c_Mo_beginsTwo (d := d + 7) (fun m4 t4 f4 => ?_)
  have e4 : m4 123 = mem 123 := f4.pg
  refine c_Mo_placeOfOne (rm := mem 122 1) (d := d + 6) (by rw [e4]; exact w1) w2.2 (a := a) (by omega) (by rw [e4]; exact hWa) ?_
  refine c_Mo_placeOfOne (rm := mem 122 1) (d := d + 6) (by rw [e4]; exact w1) w2.2 (a := b) (by omega) (by rw [e4]; exact hWb) ?_
  rw [e4, hA, hBb]
  obtain ⟨⟨a1, a2, -⟩, a3⟩ := id cA
  obtain ⟨⟨b1, b2, -⟩, b3⟩ := id cB
  have h0 : tI (s0C (mem 123) A B) m4 (fun _ => False) := ⟨0, _, _, t4, fun i hi => absurd hi (Nat.not_lt_zero _), fun y hy => hy.elim⟩
  refine v_Mo_findsCup fun x1 e1 => ?_
  have he0 : zadd x1 0 = ((cd A B 0 : Nat) : Int) := by rw [e1]; exact cd_e cA cB (show 0 < 6 by omega)
  have he1 : zsub (zadd x1 1) 0 = ((cd A B 1 : Nat) : Int) := by
    have := cd_e cA cB (show 1 < 6 by omega)
    rw [← e1] at this
    rw [show (1 : Int) = ((1 : Nat) : Int) by omega, this]
    have hl := (cd_at cA cB (show 1 < 6 by omega)).1
    rw [zs (by omega)]
    omega
  rw [he0]
  refine h0.find (d := d + 6) (Or.inl rfl) (cd_at cA cB (by omega)).1 (fun m' hI' hf' => ?_)
  have e5 := (f4.trans hf').pg
  refine c_Mo_roomAt (d := d + 6) ⟨a1, a2⟩ (c_Mo_roomAt (d := d + 6) ⟨b1, b2⟩ ?_)
  rw [e5]
  refine ⟨fun c5 => loop 8664 0 m' (by omega) (tI.begin_ ?_) (f4.trans hf'), fun c5 => ?_⟩
  · obtain ⟨n, q, D, i1, i2, i3⟩ := hI'
    refine ⟨n, q, D, i1, i2, fun y hy => i3 y ?_⟩
    rcases hy with hy | hy
    · exact Or.inr hy
    · exact absurd hy.1 c5
  · rw [he1]
    refine hI'.find (d := d + 6) (Or.inr ⟨c5, rfl⟩) (cd_at cA cB (by omega)).1 (fun m2 hI2 hf2 => ?_)
    refine loop 8664 0 m2 (by omega) (tI.begin_ ?_) ((f4.trans hf').trans hf2)
    obtain ⟨n, q, D, i1, i2, i3⟩ := hI2
    refine ⟨n, q, D, i1, i2, fun y hy => i3 y ?_⟩
    rcases hy with hy | hy
    · exact Or.inl (Or.inr hy)
    · exact Or.inr hy.2
end
