section
variable {d w : Nat} {mem m m' m2 : zMem} {Q : Int → zMem → Prop} {R S : zMem → Prop} {g g' : zPg} {rm pl r t u p : Int} {k s tn : Nat} {some : Int} {M M' Fr Fr' : Nat → Nat → Prop} {pl0 home : Int} {s0 wh n : Nat}
def rS0 (pl0 : Int) (s0 : Nat) (x : Int × Nat) : Prop := x = (pl0, s0)
def rSt (g : zPg) (some : Int) (x y : Int × Nat) : Prop := ∃ k, pMay g x.1 k ∧ y = (pStep g x.1 k, x.2 ||| rAb some (pR g (pStep g x.1 k)))
def rTg (g : zPg) (home : Int) (wh : Nat) (x : Int × Nat) : Prop := pR g x.1 = home ∧ x.2 = wh
def rLF (g : zPg) (some pl0 : Int) (s0 n : Nat) (x : Int × Nat) : Prop := lvF (rS0 pl0 s0) (rSt g some) n x
def rLB (g : zPg) (some pl0 : Int) (s0 n : Nat) (x : Int × Nat) : Prop := lvB (rS0 pl0 s0) (rSt g some) n x
def rCB (g : zPg) (some pl0 : Int) (s0 n x s : Nat) : Prop := ∃ p, rPh p = x ∧ rLB g some pl0 s0 n (p, s)
def rCF (g : zPg) (some pl0 : Int) (s0 n x s : Nat) : Prop := ∃ p, rPh p = x ∧ rLF g some pl0 s0 n (p, s)
def rRc (g : zPg) (pl0 p : Int) : Prop := pOK g p ∧ (p = pl0 ∨ p < 420)
theorem rRc_inj {p p' : Int} (h : rRc g pl0 p) (h' : rRc g pl0 p') (e : rPh p = rPh p') : p = p' := by
  have h0 := h.1.1
  have h0' := h'.1.1
  unfold rPh at e
  by_cases q : p < 420
  · rw [if_pos q] at e
    by_cases q' : p' < 420
    · rw [if_pos q'] at e
      omega
    · rw [if_neg q'] at e
      omega
  · rw [if_neg q] at e
    by_cases q' : p' < 420
    · rw [if_pos q'] at e
      omega
    · rw [h.2.resolve_right q, h'.2.resolve_right q']
theorem rLF_rc (hD : gDo g) (hc : zpc 14 some ≤ 5) (hp : pOK g pl0) (hs : s0 < 32) : ∀ n x, rLF g some pl0 s0 n x → rRc g pl0 x.1 ∧ x.2 < 32
  | 0, x, h => by
    have h : x = (pl0, s0) := h
    rw [h]
    exact ⟨⟨hp, Or.inl rfl⟩, hs⟩
  | n + 1, x, h => by
    obtain ⟨⟨z, h1, k, h2, h3⟩, -⟩ := h
    obtain ⟨i1, i2⟩ := rLF_rc hD hc hp hs n z h1
    obtain ⟨s1, s2, -⟩ := pStep_ok hD i1.1 (d := k) h2.1.1
    rw [h3]
    exact ⟨⟨s1, Or.inr s2.2⟩, lor_lt i2 (rAb_lt hc (pR_b hD s1))⟩
theorem rLB_rc (hD : gDo g) (hc : zpc 14 some ≤ 5) (hp : pOK g pl0) (hs : s0 < 32) {x : Int × Nat} (h : rLB g some pl0 s0 n x) : rRc g pl0 x.1 ∧ x.2 < 32 := by
  obtain ⟨m, -, h2⟩ := (lvB_iff n).mp h
  exact rLF_rc hD hc hp hs m x h2
theorem c_Ro_spreadLevel (hD : gDo g) (hH : Hs mem 2 g rm) (hc : zpc 14 some ≤ 5) (hwh : wh < 32) (hcx : rCx mem some home wh) (hp0 : pOK g pl0) (hs0 : s0 < 32) (hpn : 420 ≤ pl0 → pl0 = pNew home ∧ (0 ≤ home ∧ home < 10)) {old : Nat} (hot : old + tn = 1) (hrep : rRep mem old (rCB g some pl0 s0 n) (rCF g some pl0 s0 n)) (hz : ∀ x, x < 421 → mem (81 + tn) x = 0)
    (hQ : ∀ (m' : zMem) (v : Int), (v = 0 ∨ v = 1) → (v = 1 ↔ ∃ x y, rLF g some pl0 s0 n x ∧ rSt g some x y ∧ rTg g home wh y) → rRep m' tn (rCB g some pl0 s0 (n + 1)) (rCF g some pl0 s0 (n + 1)) → (∀ x, x < 421 → m' (81 + old) x = 0) → (∀ c, c < 79 ∨ 86 < c → m' c = mem c) → Q v m') : zC (d + 3) K_Ro_spreadLevel [(2, Int.ofNat 77), (2, Int.ofNat 2), (0, (tn : Int))] mem Q := by
  refine zC.rg fun _ hrg => ?_
  obtain ⟨zo1, zo2, zo3⟩ := zRo_rt (t := old) (by omega)
  obtain ⟨r1, r2, r3, r4, r5, r6⟩ := id hrep
  have rc := rLF_rc (pl0 := pl0) (some := some) hD hc hp0 hs0 n
  have hzI : ∀ x, zI (mem (81 + old) x) := fun x => zrg_i hrg (by rw [zo3]; decide) x
  -- the place of a spot in the row
  have plc : ∀ j : Nat, (j : Int) < mem 86 old → ∃ q, rPh q = (mem (84 + old) j).toNat ∧ (∃ s', rLF g some pl0 s0 n (q, s')) := by
    intro j hj
    obtain ⟨a1, a2, a3⟩ := r4 j hj
    refine Classical.byContradiction fun hno => a3 ?_
    rw [zB_z (hzI _)]
    intro s hs z
    obtain ⟨q, q1, q2⟩ := (r2 _ (by omega) s hs).mp z
    exact hno ⟨q, q1, s, q2⟩
  -- what is made by the first spots; whether it is done
  generalize hN : (gN g).toNat = N
  let Ge : Nat → Nat → Nat → Prop := fun i x s => ∃ j, j < i ∧ (j : Int) < mem 86 old ∧ ∃ q, rPh q = (mem (84 + old) j).toNat ∧ (∃ s', rLF g some pl0 s0 n (q, s')) ∧ rGe g some q (mem (81 + old) (mem (84 + old) j).toNat) N x s
  let Ht : Nat → Prop := fun i => ∃ j, j < i ∧ (j : Int) < mem 86 old ∧ ∃ q, rPh q = (mem (84 + old) j).toNat ∧ (∃ s', rLF g some pl0 s0 n (q, s')) ∧ rHt g some q (mem (81 + old) (mem (84 + old) j).toNat) home wh N
  have bits : ∀ (j : Nat) (q : Int), (j : Int) < mem 86 old → rPh q = (mem (84 + old) j).toNat → (∃ s', rLF g some pl0 s0 n (q, s')) → ∀ s', s' < 32 → (zB (mem (81 + old) (mem (84 + old) j).toNat) s' ↔ rLF g some pl0 s0 n (q, s')) := by
    intro j q hj hq ⟨s1, hs1⟩ s' hs'
    obtain ⟨a1, a2, a3⟩ := r4 j hj
    rw [r2 _ (by omega) s' hs']
    constructor
    · rintro ⟨q', q1, q2⟩
      have : q' = q := rRc_inj (rc _ q2).1 (rc _ hs1).1 (by rw [q1, hq])
      rw [← this]
      exact q2
    · intro z
      exact ⟨q, hq, z⟩
  have row : ∀ q s', rLF g some pl0 s0 n (q, s') → ∃ j : Nat, (j : Int) < mem 86 old ∧ rPh q = (mem (84 + old) j).toNat := by
    intro q s' h
    obtain ⟨b1, b2⟩ := rc _ h
    have hlt := rPh_lt b1.1.1
    have hb : zB (mem (81 + old) (rPh q)) s' := (r2 _ hlt s' b2).mpr ⟨q, rfl, h⟩
    obtain ⟨j, j1, j2⟩ := r6 (rPh q) hlt (fun z => by rw [z] at hb; exact zB_0 _ hb)
    exact ⟨j, j1, by omega⟩
  have steps : ∀ x s, s < 32 → (Ge (mem 86 old).toNat x s ↔ ∃ z y, rLF g some pl0 s0 n z ∧ rSt g some z y ∧ rPh y.1 = x ∧ y.2 = s) := by
    intro x s hs
    constructor
    · rintro ⟨j, -, j2, q, q1, q2, k, k1, k2, k3, s', t1, t2, t3⟩
      have hz := (bits j q j2 q1 q2 s' t1).mp t2
      exact ⟨(q, s'), (pStep g q k, s' ||| rAb some (pR g (pStep g q k))), hz, ⟨k, k2, rfl⟩, k3.symm, t3⟩
    · rintro ⟨⟨q, s'⟩, y, h1, ⟨k, k2, h3⟩, h4, h5⟩
      obtain ⟨b1, b2⟩ := rc _ h1
      obtain ⟨j, j1, j2⟩ := row q s' h1
      have hkN : (k : Int) < gN g := k2.1.1
      refine ⟨j, by omega, j1, q, j2, ⟨s', h1⟩, k, by omega, k2, ?_, s', b2, (bits j q j1 j2 ⟨s', h1⟩ s' b2).mpr h1, ?_⟩
      · rw [← h4, h3]
      · rw [← h5, h3]
  have hits : Ht (mem 86 old).toNat ↔ ∃ x y, rLF g some pl0 s0 n x ∧ rSt g some x y ∧ rTg g home wh y := by
    constructor
    · rintro ⟨j, -, j2, q, q1, q2, k, k1, k2, k3, s', t1, t2, t3⟩
      have hz := (bits j q j2 q1 q2 s' t1).mp t2
      exact ⟨(q, s'), (pStep g q k, s' ||| rAb some (pR g (pStep g q k))), hz, ⟨k, k2, rfl⟩, k3, t3⟩
    · rintro ⟨⟨q, s'⟩, y, h1, ⟨k, k2, h3⟩, h4, h5⟩
      obtain ⟨b1, b2⟩ := rc _ h1
      obtain ⟨j, j1, j2⟩ := row q s' h1
      have hkN : (k : Int) < gN g := k2.1.1
      refine ⟨j, by omega, j1, q, j2, ⟨s', h1⟩, k, by omega, k2, ?_, s', b2, (bits j q j1 j2 ⟨s', h1⟩ s' b2).mpr h1, ?_⟩
      · rw [← h4, h3]
      · rw [← h5, h3]
  have loop : ∀ (N2 i : Nat) (m : zMem) (v : Int), i + N2 = (mem 86 old).toNat → (v = 0 ∨ v = 1) → (v = 1 ↔ Ht i) → rRep m tn (fun x s => rCB g some pl0 s0 n x s ∨ Ge i x s) (fun x s => Ge i x s ∧ ¬ rCB g some pl0 s0 n x s) → m 86 old = mem 86 old → m (84 + old) = mem (84 + old) → (∀ x, x < 421 → (∃ j : Nat, j < i ∧ (j : Int) < mem 86 old ∧ (mem (84 + old) j).toNat = x) → m (81 + old) x = 0) → (∀ x, x < 421 → ¬ (∃ j : Nat, j < i ∧ (j : Int) < mem 86 old ∧ (mem (84 + old) j).toNat = x) → m (81 + old) x = mem (81 + old) x) → (∀ c, c < 79 ∨ 86 < c → m c = mem c) → zG (d + 3) M_Ro_spreadLevel 25 [(2, Int.ofNat 77), (2, Int.ofNat 2), (0, (tn : Int)), (0, (old : Int)), (0, mem 86 old), (0, v), (0, (i : Int)), (9, 0), (9, 0)] [] m Q := by
    intro N2
    induction N2 with
    | zero =>
      intro i m v hi hv hvi hr h86 h84 hz0 hz1 hf
      refine v_Ro_spreadLevel_25 ⟨fun c => ⟨hv, ?_⟩, fun c => by omega⟩
      have hiL : i = (mem 86 old).toNat := by omega
      refine hQ m v hv (by rw [hvi, hiL]; exact hits) (hr.cg (fun x s hx hs => ?_) (fun x s hx hs => ?_)) (fun x hx => ?_) hf
      · show rCB g some pl0 s0 (n + 1) x s ↔ rCB g some pl0 s0 n x s ∨ Ge i x s
        rw [hiL, steps x s hs]
        constructor
        · rintro ⟨q, q1, q2⟩
          rcases lvB_s'.mp q2 with z | ⟨z, z1, z2⟩
          · exact Or.inl ⟨q, q1, z⟩
          · exact Or.inr ⟨z, (q, s), z1, z2, q1, rfl⟩
        · rintro (⟨q, q1, q2⟩ | ⟨z, y, z1, z2, z3, z4⟩)
          · exact ⟨q, q1, lvB_s'.mpr (Or.inl q2)⟩
          · refine ⟨y.1, z3, lvB_s'.mpr (Or.inr ⟨z, z1, ?_⟩)⟩
            rw [← z4]
            exact z2
      · show rCF g some pl0 s0 (n + 1) x s ↔ Ge i x s ∧ ¬ rCB g some pl0 s0 n x s
        rw [hiL, steps x s hs]
        constructor
        · rintro ⟨q, q1, q2⟩
          obtain ⟨⟨z, z1, z2⟩, z3⟩ := id q2
          refine ⟨⟨z, (q, s), z1, z2, q1, rfl⟩, ?_⟩
          rintro ⟨q', y1, y2⟩
          have : q' = q := rRc_inj (rLB_rc hD hc hp0 hs0 y2).1 (rLF_rc hD hc hp0 hs0 (n + 1) _ q2).1 (by rw [y1, q1])
          rw [this] at y2
          exact z3 y2
        · rintro ⟨⟨z, y, z1, z2, z3, z4⟩, z5⟩
          refine ⟨y.1, z3, lvF_s.mpr ⟨⟨z, z1, ?_⟩, fun y2 => z5 ⟨y.1, z3, y2⟩⟩⟩
          rw [← z4]
          exact z2
      · by_cases q : ∃ j : Nat, j < i ∧ (j : Int) < mem 86 old ∧ (mem (84 + old) j).toNat = x
        · exact hz0 x hx q
        · rw [hz1 x hx q]
          refine Classical.byContradiction fun z => q ?_
          obtain ⟨j, j1, j2⟩ := r6 x hx z
          exact ⟨j, by omega, j1, by omega⟩
    | succ N2 ih =>
      intro i m v hi hv hvi hr h86 h84 hz0 hz1 hf
      have hi86 : (i : Int) < mem 86 old := by omega
      obtain ⟨a1, a2, a3⟩ := r4 i hi86
      obtain ⟨q, q1, q2⟩ := plc i hi86
      have hqrc : rRc g pl0 q := (rc _ q2.choose_spec).1
      refine v_Ro_spreadLevel_25 ?_
      rw [Int.toNat_natCast, Int.toNat_natCast, zo1, zo2, h84]
      refine ⟨fun c => by omega, fun c => ⟨by omega, by omega, fun x1 e1 => ⟨by omega, by omega, fun x2 e2 => ⟨by omega, by omega, fun m1 f1 => ?_⟩⟩⟩⟩
      have hx1 : x1.toNat = (mem (84 + old) i).toNat := by rw [e1]
      have hne : ¬ ∃ j : Nat, j < i ∧ (j : Int) < mem 86 old ∧ (mem (84 + old) j).toNat = x1.toNat := by
        rintro ⟨j, j1, j2, j3⟩
        have h1 := r4 j j2
        have := r5 j i j1 hi86
        omega
      have hx2 : x2 = mem (81 + old) (mem (84 + old) i).toNat := by rw [e2, hz1 _ (by omega) hne, hx1]
      have hxp : x1 = ((rPh q : Nat) : Int) := by omega
      have g1 : ∀ c, c ≠ 81 + old → m1 c = m c := fun c hc => by funext j; rw [f1, zup_k hc]
      rw [hxp, hx2]
      have hr1 : rRep m1 tn (fun x s => rCB g some pl0 s0 n x s ∨ Ge i x s) (fun x s => Ge i x s ∧ ¬ rCB g some pl0 s0 n x s) := hr.fr (g1 79 (by omega)) (g1 (81 + tn) (by omega)) (g1 (84 + tn) (by omega)) (by rw [g1 86 (by omega)])
      refine c_Ro_spread (d := d) (some := some) hD (hH.fr (fun c c1 c2 => by rw [g1 c (by omega), hf c (by omega)])) hc hwh (hcx.fr (by rw [g1 77 (by omega), hf 77 (by omega)]) (by rw [g1 78 (by omega), hf 78 (by omega)])) (by omega) hr1 (fun x s _ _ z => Or.inr z.1) hqrc.1 (fun z => ?_) (hzI _) (fun m2 x hx hxi hr2 hf2 h862 x4 e4 x5 e5 => ?_)
      · have : q = pl0 := hqrc.2.resolve_right (by omega)
        rw [this] at z ⊢
        exact hpn z
      · rw [za (by omega)] at e5
        rw [e5]
        have hgs : ∀ x s, Ge (i + 1) x s ↔ Ge i x s ∨ rGe g some q (mem (81 + old) (mem (84 + old) i).toNat) N x s := by
          intro x s
          constructor
          · rintro ⟨j, j1, j2, q', p1, p2, p3⟩
            by_cases e : j = i
            · right
              rw [e] at p1 p3
              have : q' = q := rRc_inj (rc _ p2.choose_spec).1 hqrc (by rw [p1, q1])
              rw [← this]
              exact p3
            · exact Or.inl ⟨j, by omega, j2, q', p1, p2, p3⟩
          · rintro (⟨j, j1, j2⟩ | z)
            · exact ⟨j, by omega, j2⟩
            · exact ⟨i, by omega, hi86, q, q1, q2, z⟩
        have hhs : Ht (i + 1) ↔ Ht i ∨ rHt g some q (mem (81 + old) (mem (84 + old) i).toNat) home wh N := by
          constructor
          · rintro ⟨j, j1, j2, q', p1, p2, p3⟩
            by_cases e : j = i
            · right
              rw [e] at p1 p3
              have : q' = q := rRc_inj (rc _ p2.choose_spec).1 hqrc (by rw [p1, q1])
              rw [← this]
              exact p3
            · exact Or.inl ⟨j, by omega, j2, q', p1, p2, p3⟩
          · rintro (⟨j, j1, j2⟩ | z)
            · exact ⟨j, by omega, j2⟩
            · exact ⟨i, by omega, hi86, q, q1, q2, z⟩
        rw [hN] at hxi hr2
        refine ih (i + 1) m2 x4 (by omega) ?_ ?_ (hr2.cg (fun x s _ _ => ?_) (fun x s _ _ => ?_)) ?_ ?_ (fun x hx3 hj => ?_) (fun x hx3 hj => ?_) (fun c hc => ?_)
        · rw [e4]
          rcases hv with y1 | y1 <;> rcases hx with y2 | y2 <;> rw [y1, y2] <;> decide
        · rw [hhs, ← hvi, ← hxi, e4]
          rcases hv with y1 | y1 <;> rcases hx with y2 | y2 <;> rw [y1, y2] <;> decide
        · rw [hgs]
          constructor
          · rintro (z | z | z)
            · exact Or.inl (Or.inl z)
            · exact Or.inl (Or.inr z)
            · exact Or.inr z
          · rintro ((z | z) | z)
            · exact Or.inl z
            · exact Or.inr (Or.inl z)
            · exact Or.inr (Or.inr z)
        · rw [hgs]
          constructor
          · rintro ⟨z | z, y⟩
            · exact Or.inl ⟨z, y⟩
            · by_cases y2 : Ge i x s
              · exact Or.inl ⟨y2, y⟩
              · exact Or.inr ⟨z, fun y3 => y3.elim y y2⟩
          · rintro (⟨z, y⟩ | ⟨z, y⟩)
            · exact ⟨Or.inl z, y⟩
            · exact ⟨Or.inr z, fun y2 => y (Or.inl y2)⟩
        · rw [h862 old (by omega), g1 86 (by omega), h86]
        · rw [hf2 (84 + old) (by omega) (by omega) (by omega) (by omega), g1 (84 + old) (by omega), h84]
        · rw [hf2 (81 + old) (by omega) (by omega) (by omega) (by omega), f1, zup_at]
          by_cases e : x = x1.toNat
          · rw [if_pos ⟨rfl, e⟩]
          · rw [if_neg (fun z => e z.2)]
            obtain ⟨j, j1, j2, j3⟩ := hj
            by_cases e2 : j = i
            · rw [e2] at j3; omega
            · exact hz0 x hx3 ⟨j, by omega, j2, j3⟩
        · rw [hf2 (81 + old) (by omega) (by omega) (by omega) (by omega), f1, zup_at]
          by_cases e : x = x1.toNat
          · exact absurd ⟨i, by omega, hi86, by omega⟩ hj
          · rw [if_neg (fun z => e z.2)]
            exact hz1 x hx3 (fun ⟨j, j1, j2⟩ => hj ⟨j, by omega, j2⟩)
        · rw [hf2 c (by omega) (by omega) (by omega) (by omega), g1 c (by omega), hf c hc]
  refine v_Ro_spreadLevel fun x1 e1 => ⟨by omega, fun m1 f1 => ?_⟩
  rw [zs (by omega), show (1 : Int) - (tn : Int) = (old : Int) by omega] at e1
  rw [Int.toNat_natCast] at f1
  rw [e1]
  have g1 : ∀ c, c ≠ 86 → m1 c = mem c := fun c hc => by funext j; rw [f1, zup_k hc]
  have h86o : m1 86 old = mem 86 old := by rw [f1, zup_j (by omega)]
  refine ⟨by omega, fun x2 e2 => ?_⟩
  rw [Int.toNat_natCast, h86o] at e2
  rw [e2]
  refine loop (mem 86 old).toNat 0 m1 0 (by omega) (Or.inl rfl) ⟨fun q => absurd q (by decide), fun ⟨j, q, _⟩ => absurd q (Nat.not_lt_zero _)⟩ ?_ (by rw [f1, zup_j (by omega)]) (g1 _ (by omega)) (fun x _ ⟨j, q, _⟩ => absurd q (Nat.not_lt_zero _)) (fun x _ _ => by rw [g1 _ (by omega)]) (fun c hc => g1 c (by omega))
  have e86 : m1 86 tn = 0 := by rw [f1, zup_e]
  refine ⟨fun x hx s hs => ?_, fun x hx s hs => ?_, by rw [e86]; omega, fun i hi => by rw [e86] at hi; omega, fun i j _ hj => by rw [e86] at hj; omega, fun x hx hne => ?_⟩
  · rw [g1 79 (by omega), r1 x hx s hs]
    exact ⟨Or.inl, fun q => q.elim id (fun ⟨j, z, _⟩ => absurd z (Nat.not_lt_zero _))⟩
  · rw [g1 _ (by omega), hz x hx]
    exact ⟨fun q => absurd q (zB_0 s), fun ⟨⟨j, z, _⟩, _⟩ => absurd z (Nat.not_lt_zero _)⟩
  · rw [g1 _ (by omega), hz x hx] at hne
    exact absurd rfl hne
end
