section
/-! round: the class's rows. -/
variable {d w : Nat} {mem m m' m2 : zMem} {Q : Int → zMem → Prop} {R S : zMem → Prop} {g g' : zPg} {rm pl r t u p : Int} {k s tn : Nat} {some : Int} {M M' Fr Fr' : Nat → Nat → Prop}
def rRep (m : zMem) (tn : Nat) (M Fr : Nat → Nat → Prop) : Prop :=
  (∀ x, x < 421 → ∀ s, s < 32 → (zB (m 79 x) s ↔ M x s)) ∧ (∀ x, x < 421 → ∀ s, s < 32 → (zB (m (81 + tn) x) s ↔ Fr x s)) ∧ (0 ≤ m 86 tn ∧ m 86 tn ≤ 421) ∧ (∀ i : Nat, (i : Int) < m 86 tn → 0 ≤ m (84 + tn) i ∧ m (84 + tn) i < 421 ∧ m (81 + tn) (m (84 + tn) i).toNat ≠ 0) ∧ (∀ i j : Nat, i < j → (j : Int) < m 86 tn → m (84 + tn) i ≠ m (84 + tn) j) ∧ ∀ x : Nat, x < 421 → m (81 + tn) x ≠ 0 → ∃ i : Nat, (i : Int) < m 86 tn ∧ m (84 + tn) i = x
theorem rRep.cg (h : rRep m tn M Fr) (h1 : ∀ x s, x < 421 → s < 32 → (M' x s ↔ M x s)) (h2 : ∀ x s, x < 421 → s < 32 → (Fr' x s ↔ Fr x s)) : rRep m tn M' Fr' := by
  obtain ⟨a1, a2, a3⟩ := h
  exact ⟨fun x hx s hs => by rw [a1 x hx s hs, h1 x s hx hs], fun x hx s hs => by rw [a2 x hx s hs, h2 x s hx hs], a3⟩
theorem rRep.fr (h : rRep m tn M Fr) (h79 : m' 79 = m 79) (h81 : m' (81 + tn) = m (81 + tn)) (h84 : m' (84 + tn) = m (84 + tn)) (h86 : m' 86 tn = m 86 tn) : rRep m' tn M Fr := by
  unfold rRep at h ⊢
  rw [h79, h81, h84, h86]
  exact h
theorem zRo_rt {t : Nat} (h : t < 2) : zrt 80 t = 81 + t ∧ zrt 83 t = 84 + t ∧ zkd (81 + t) = 100 := (show ∀ t, t < 2 → zrt 80 t = 81 + t ∧ zrt 83 t = 84 + t ∧ zkd (81 + t) = 100 by decide +kernel) t h
theorem c_Ro_put (ht : tn < 2) (hrep : rRep mem tn M Fr) (hsub : ∀ x s, x < 421 → s < 32 → Fr x s → M x s) {x0 : Nat} (hx : x0 < 421) {sets : Int}
    (hQ : ∀ m' : zMem, rRep m' tn (fun x s => M x s ∨ (x = x0 ∧ zB sets s)) (fun x s => Fr x s ∨ (x = x0 ∧ zB sets s ∧ ¬ M x s)) → (∀ c, c ≠ 79 → c ≠ 81 + tn → c ≠ 84 + tn → c ≠ 86 → m' c = mem c) → (∀ j, j ≠ tn → m' 86 j = mem 86 j) → Q 0 m') : zC (d + 1) K_Ro_put [(2, Int.ofNat 77), (0, (tn : Int)), (0, (x0 : Int)), (0, sets)] mem Q := by
  refine zC.rg fun _ hrg => ?_
  obtain ⟨z1, z2, z3⟩ := zRo_rt ht
  obtain ⟨r1, r2, r3, r4, r5, r6⟩ := id hrep
  refine v_Ro_put ?_
  rw [Int.toNat_natCast, Int.toNat_natCast, z1, z2]
  refine ⟨by omega, fun y ey => ?_⟩
  have hyz : zI y := ey ▸ zand_I _ _
  have hy : ∀ s, s < 32 → (zB y s ↔ zB sets s ∧ ¬ M x0 s) := fun s hs => by rw [ey, zB_and, zB_not _ hs, r1 x0 hx s hs]
  have hfz : zI (mem (81 + tn) x0) := zrg_i hrg (by rw [z3]; decide) _
  -- bits behind the change
  have b79 : ∀ x s, x < 421 → s < 32 → ((if x = x0 then zB (zor (mem 79 x0) y) s else zB (mem 79 x) s) ↔ (M x s ∨ (x = x0 ∧ zB sets s))) := by
    intro x s hx' hs
    by_cases e : x = x0
    · rw [if_pos e, zB_or, hy s hs, r1 x0 hx s hs, e]
      constructor
      · rintro (q | q)
        · exact Or.inl q
        · exact Or.inr ⟨rfl, q.1⟩
      · rintro (q | q)
        · exact Or.inl q
        · by_cases z : M x0 s
          · exact Or.inl z
          · exact Or.inr ⟨q.2, z⟩
    · rw [if_neg e, r1 x hx' s hs]
      exact ⟨Or.inl, fun q => q.elim id (fun z => absurd z.1 e)⟩
  have b81 : ∀ x s, x < 421 → s < 32 → ((if x = x0 then zB (zor (mem (81 + tn) x0) y) s else zB (mem (81 + tn) x) s) ↔ (Fr x s ∨ (x = x0 ∧ zB sets s ∧ ¬ M x s))) := by
    intro x s hx' hs
    by_cases e : x = x0
    · rw [if_pos e, zB_or, hy s hs, r2 x0 hx s hs, e]
      constructor
      · rintro (q | q)
        · exact Or.inl q
        · exact Or.inr ⟨rfl, q.1, q.2⟩
      · rintro (q | q)
        · exact Or.inl q
        · exact Or.inr ⟨q.2.1, q.2.2⟩
    · rw [if_neg e, r2 x hx' s hs]
      exact ⟨Or.inl, fun q => q.elim id (fun z => absurd z.1 e)⟩
  refine ⟨fun c => ⟨by omega, by omega, fun c2 => ⟨by omega, by omega, by omega, fun m1 f1 => ⟨by omega, by omega, fun m2 f2 => ?_⟩⟩, fun c2 => ⟨by omega, by omega, ?_⟩⟩, fun c => ?_⟩
  · have g1 : m1 79 x0 = mem 79 x0 := by rw [f1, zup_k (by omega)]
    rw [g1] at f2
    have e79 : ∀ x, m2 79 x = if x = x0 then zor (mem 79 x0) y else mem 79 x := fun x => by
      rw [f2, zup_at, f1, zup_k (by omega)]
      by_cases e : x = x0
      · rw [if_pos ⟨rfl, e⟩, if_pos e]
      · rw [if_neg (fun q => e q.2), if_neg e]
    have e81 : ∀ x, m2 (81 + tn) x = if x = x0 then zor (mem (81 + tn) x0) y else mem (81 + tn) x := fun x => by
      rw [f2, zup_k (by omega), f1, zup_at]
      by_cases e : x = x0
      · rw [if_pos ⟨rfl, e⟩, if_pos e]
      · rw [if_neg (fun q => e q.2), if_neg e]
    have ho : ∀ c, c ≠ 79 → c ≠ 81 + tn → m2 c = mem c := fun c c1 c2 => by funext j; rw [f2, zup_k c1, f1, zup_k c2]
    have nz : ∀ x, m2 (81 + tn) x ≠ 0 ↔ mem (81 + tn) x ≠ 0 := by
      intro x
      rw [e81]
      by_cases e : x = x0
      · rw [if_pos e, e]
        refine ⟨fun _ => c2, fun _ z => c2 ?_⟩
        rw [zB_z hfz]
        intro s hs q
        rw [zB_z (zor_I _ _)] at z
        exact z s hs ((zB_or _ _ _).mpr (Or.inl q))
      · rw [if_neg e]
    refine hQ m2 ⟨fun x hx' s hs => ?_, fun x hx' s hs => ?_, ?_, fun i hi => ?_, fun i j hij hj => ?_, fun x hx' hne => ?_⟩ (fun c c1 c2 c3 c4 => ho c c1 c2) (fun j hj => by rw [ho 86 (by omega) (by omega)])
    · rw [e79]
      refine Iff.trans ?_ (b79 x s hx' hs)
      by_cases e : x = x0
      · rw [if_pos e, if_pos e]
      · rw [if_neg e, if_neg e]
    · rw [e81]
      refine Iff.trans ?_ (b81 x s hx' hs)
      by_cases e : x = x0
      · rw [if_pos e, if_pos e]
      · rw [if_neg e, if_neg e]
    · rw [ho 86 (by omega) (by omega)]; exact r3
    · rw [ho 86 (by omega) (by omega)] at hi
      rw [ho (84 + tn) (by omega) (by omega), nz]
      exact r4 i hi
    · rw [ho 86 (by omega) (by omega)] at hj
      rw [ho (84 + tn) (by omega) (by omega)]
      exact r5 i j hij hj
    · rw [nz] at hne
      rw [ho 86 (by omega) (by omega), ho (84 + tn) (by omega) (by omega)]
      exact r6 x hx' hne
  · have hsz : mem 86 tn < 421 := by
      have hp := zpig 421 ((mem 86 tn).toNat + 1) (fun i => if i = (mem 86 tn).toNat then x0 else (mem (84 + tn) i).toNat) (fun i hi => ?_) (fun i j hij hj => ?_)
      · omega
      · by_cases e : i = (mem 86 tn).toNat
        · rw [if_pos e]; exact hx
        · rw [if_neg e]
          have := r4 i (by omega)
          omega
      · by_cases e : j = (mem 86 tn).toNat
        · rw [if_neg (by omega), if_pos e]
          intro q
          have := r4 i (by omega)
          rw [q] at this
          exact this.2.2 c2
        · rw [if_neg (by omega), if_neg e]
          have h1 := r4 i (by omega)
          have h2 := r4 j (by omega)
          have := r5 i j hij (by omega)
          omega
    refine ⟨by omega, fun m3 f3 => ⟨by omega, by omega, fun m4 f4 => ⟨by omega, by omega, by omega, fun m5 f5 => ⟨by omega, by omega, fun m6 f6 => ?_⟩⟩⟩⟩
    have g3 : m3 86 tn = mem 86 tn := by rw [f3, zup_k (by omega)]
    rw [g3, za (by omega)] at f4
    have g4 : m4 (81 + tn) x0 = mem (81 + tn) x0 := by rw [f4, zup_k (by omega), f3, zup_k (by omega)]
    rw [g4] at f5
    have g5 : m5 79 x0 = mem 79 x0 := by rw [f5, zup_k (by omega), f4, zup_k (by omega), f3, zup_k (by omega)]
    rw [g5] at f6
    have e79 : ∀ x, m6 79 x = if x = x0 then zor (mem 79 x0) y else mem 79 x := fun x => by
      rw [f6, zup_at, f5, zup_k (by omega), f4, zup_k (by omega), f3, zup_k (by omega)]
      by_cases e : x = x0
      · rw [if_pos ⟨rfl, e⟩, if_pos e]
      · rw [if_neg (fun q => e q.2), if_neg e]
    have e81 : ∀ x, m6 (81 + tn) x = if x = x0 then zor (mem (81 + tn) x0) y else mem (81 + tn) x := fun x => by
      rw [f6, zup_k (by omega), f5, zup_at, f4, zup_k (by omega), f3, zup_k (by omega)]
      by_cases e : x = x0
      · rw [if_pos ⟨rfl, e⟩, if_pos e]
      · rw [if_neg (fun q => e q.2), if_neg e]
    have e84 : ∀ i : Nat, m6 (84 + tn) i = if i = (mem 86 tn).toNat then (x0 : Int) else mem (84 + tn) i := fun i => by
      rw [f6, zup_k (by omega), f5, zup_k (by omega), f4, zup_k (by omega), f3, zup_at]
      by_cases e : i = (mem 86 tn).toNat
      · rw [if_pos ⟨rfl, e⟩, if_pos e]
      · rw [if_neg (fun q => e q.2), if_neg e]
    have e86 : m6 86 tn = mem 86 tn + 1 := by rw [f6, zup_k (by omega), f5, zup_k (by omega), f4, zup_e]
    have nz : ∀ x, m6 (81 + tn) x ≠ 0 ↔ (x = x0 ∨ mem (81 + tn) x ≠ 0) := by
      intro x
      rw [e81]
      by_cases e : x = x0
      · rw [if_pos e]
        refine ⟨fun _ => Or.inl e, fun _ z => c ?_⟩
        rw [zB_z hyz]
        intro s hs q
        rw [zB_z (zor_I _ _)] at z
        exact z s hs ((zB_or _ _ _).mpr (Or.inr q))
      · rw [if_neg e]
        exact ⟨Or.inr, fun q => q.resolve_left e⟩
    refine hQ m6 ⟨fun x hx' s hs => ?_, fun x hx' s hs => ?_, ?_, fun i hi => ?_, fun i j hij hj => ?_, fun x hx' hne => ?_⟩ (fun c c1 c2 c3 c4 => ?_) (fun j hj => ?_)
    · rw [e79]
      refine Iff.trans ?_ (b79 x s hx' hs)
      by_cases e : x = x0
      · rw [if_pos e, if_pos e]
      · rw [if_neg e, if_neg e]
    · rw [e81]
      refine Iff.trans ?_ (b81 x s hx' hs)
      by_cases e : x = x0
      · rw [if_pos e, if_pos e]
      · rw [if_neg e, if_neg e]
    · rw [e86]; omega
    · rw [e86] at hi
      rw [e84, nz]
      by_cases e : i = (mem 86 tn).toNat
      · rw [if_pos e]
        exact ⟨by omega, by omega, Or.inl (by omega)⟩
      · rw [if_neg e]
        have := r4 i (by omega)
        exact ⟨this.1, this.2.1, Or.inr this.2.2⟩
    · rw [e86] at hj
      rw [e84, e84, if_neg (by omega)]
      by_cases e : j = (mem 86 tn).toNat
      · rw [if_pos e]
        intro q
        have := r4 i (by omega)
        rw [q, Int.toNat_natCast] at this
        exact this.2.2 c2
      · rw [if_neg e]
        exact r5 i j hij (by omega)
    · rw [nz] at hne
      rw [e86]
      rcases hne with q | q
      · refine ⟨(mem 86 tn).toNat, by omega, ?_⟩
        rw [e84, if_pos rfl, q]
      · obtain ⟨i, i1, i2⟩ := r6 x hx' q
        refine ⟨i, by omega, ?_⟩
        rw [e84, if_neg (by omega)]
        exact i2
    · funext j
      rw [f6, zup_k c1, f5, zup_k c2, f4, zup_k c4, f3, zup_k c3]
    · rw [f6, zup_k (by omega), f5, zup_k (by omega), f4, zup_j hj, f3, zup_k (by omega)]
  · rw [zB_z hyz] at c
    have hno : ∀ s, s < 32 → zB sets s → M x0 s := fun s hs q => Classical.byContradiction fun z => c s hs ((hy s hs).mpr ⟨q, z⟩)
    refine hQ mem (hrep.cg (fun x s hx' hs => ?_) (fun x s hx' hs => ?_)) (fun _ _ _ _ _ => rfl) (fun _ _ => rfl)
    · constructor
      · rintro (q | ⟨q1, q2⟩)
        · exact q
        · rw [q1]; exact hno s hs q2
      · exact Or.inl
    · constructor
      · rintro (q | ⟨q1, q2, q3⟩)
        · exact q
        · rw [q1] at q3; exact absurd (hno s hs q2) q3
      · exact Or.inl
/-- where a place lies in the class's rows -/
def rPh (p : Int) : Nat := if p < 420 then p.toNat else 420
theorem rPh_lt {p : Int} (h : 0 ≤ p) : rPh p < 421 := by unfold rPh; split <;> omega
/-- what comes from a place by its first doors -/
def rGe (g : zPg) (some p sets : Int) (n : Nat) (x s : Nat) : Prop := ∃ k, k < n ∧ pMay g p k ∧ x = rPh (pStep g p k) ∧ ∃ s', s' < 32 ∧ zB sets s' ∧ s' ||| rAb some (pR g (pStep g p k)) = s
def rHt (g : zPg) (some p sets home : Int) (wh n : Nat) : Prop := ∃ k, k < n ∧ pMay g p k ∧ pR g (pStep g p k) = home ∧ ∃ s', s' < 32 ∧ zB sets s' ∧ s' ||| rAb some (pR g (pStep g p k)) = wh
/-- the class's row of rooms stands -/
def rCx (m : zMem) (some home : Int) (wh : Nat) : Prop := m 77 5 = home ∧ m 77 6 = (wh : Int) ∧ ∀ r, r < 10 → m 78 r = if zb some r = true then zpc r some else -4
theorem rCx.fr {home : Int} {wh : Nat} (h : rCx m some home wh) (h7 : m' 77 = m 77) (h8 : m' 78 = m 78) : rCx m' some home wh := by
  unfold rCx at h ⊢
  rw [h7, h8]
  exact h
theorem l_Ro_spread (hD : gDo g) (hH : Hs mem 2 g rm) (hc : zpc 14 some ≤ 5) {home : Int} {wh : Nat} (hwh : wh < 32) (hcx : rCx mem some home wh) (htn : tn < 2) (hrep : rRep mem tn M Fr) (hsub : ∀ x s, x < 421 → s < 32 → Fr x s → M x s) (hp : pOK g p) {sets v na : Int} (hsz : zI sets) (hv : zI v) (hvb : ∀ j, j < 32 → (zB v j ↔ pMay g p j)) (hna : na = if gL g = 1 then zn4 (pL p) else -1)
    (hQ : ∀ (m' : zMem) (x : Int), (x = 0 ∨ x = 1) → (x = 1 ↔ rHt g some p sets home wh (gN g).toNat) → rRep m' tn (fun x s => M x s ∨ rGe g some p sets (gN g).toNat x s) (fun x s => Fr x s ∨ (rGe g some p sets (gN g).toNat x s ∧ ¬ M x s)) → (∀ c, c ≠ 79 → c ≠ 81 + tn → c ≠ 84 + tn → c ≠ 86 → m' c = mem c) → (∀ j, j ≠ tn → m' 86 j = mem 86 j) → Q x m') :
    ∀ (n i : Nat) (m : zMem) (x : Int), i + n = (gN g).toNat → (x = 0 ∨ x = 1) → (x = 1 ↔ rHt g some p sets home wh i) → rRep m tn (fun x s => M x s ∨ rGe g some p sets i x s) (fun x s => Fr x s ∨ (rGe g some p sets i x s ∧ ¬ M x s)) → (∀ c, c ≠ 79 → c ≠ 81 + tn → c ≠ 84 + tn → c ≠ 86 → m c = mem c) → (∀ j, j ≠ tn → m 86 j = mem 86 j) → zG (d + 2) M_Ro_spread 106 [(2, Int.ofNat 77), (2, Int.ofNat 2), (0, (tn : Int)), (9, 0), (0, sets), (9, 0), (9, 0), (0, pR g p), (9, 0), (9, 0), (0, v), (0, na), (0, x), (0, (i : Int)), (9, 0), (9, 0)] [] m Q := by
  have hN := hD.1
  have hl := pL_b hp
  have hnb : -1 ≤ na ∧ na < 14 := by
    rw [hna]
    split
    · exact zn4_b (by omega)
    · omega
  intro n
  induction n with
  | zero =>
    intro i m x hi hx hxi hr hf h86
    have e22 : m 2 2 = gN g := by rw [hf 2 (by omega) (by omega) (by omega) (by omega)]; exact hH.2.2.1
    refine v_Ro_spread_106 ⟨fun c => ⟨hx, ?_⟩, fun c => by omega⟩
    rw [show i = (gN g).toNat by omega] at hxi hr
    exact hQ m x hx hxi hr hf h86
  | succ n ih =>
    intro i m x hi hx hxi hr hf h86
    have e22 : m 2 2 = gN g := by rw [hf 2 (by omega) (by omega) (by omega) (by omega)]; exact hH.2.2.1
    have hi14 : (i : Int) < gN g := by omega
    obtain ⟨s1, s2, s3, s4, s5⟩ := pStep_ok hD hp (d := i) hi14
    have hse := pStep_eq hD hp (d := i) hi14
    rw [← hna] at hse
    refine v_Ro_spread_106 ⟨fun c => by omega, fun c => ⟨fun c2 => ?_, fun c2 x13 e13 => ?_⟩⟩
    · rw [zB_ne hv (by omega) (by omega), hvb _ (by omega), Int.toNat_natCast] at c2
      have hH2 : Hs m 2 g rm := hH.fr (fun c c1 c2 => hf c (by omega) (by omega) (by omega) (by omega))
      refine c_Ho_beyond (d := d) (Or.inl rfl) hH2 hN.2 ⟨by omega, hi14⟩ ?_
      rw [Int.toNat_natCast]
      have hby : (if gA g i = pR g p then gB g i else gA g i) = pR g (pStep g p i) := s3.symm
      rw [hby]
      have hrb := pR_b hD s1
      have hcx2 : rCx m some home wh := hcx.fr (hf 77 (by omega) (by omega) (by omega) (by omega)) (hf 78 (by omega) (by omega) (by omega) (by omega))
      refine c_Ro_withRoom (d := d) (some := some) hc hrb (hcx2.2.2 _ (by omega)) (fun y hy hyb => ?_) hsz
      refine c_Ho_sideBeyond (d := d) (Or.inl rfl) hH2 hN.2 ⟨by omega, hi14⟩ ?_
      rw [Int.toNat_natCast]
      have hsb : ∀ sd : Int, sd = (if gA g i = pR g p then 2 * (i : Int) + 1 else 2 * (i : Int)) → 0 ≤ sd ∧ sd < 28 := by
        intro sd e
        rw [e]
        split <;> omega
      have hsb2 := hsb _ rfl
      generalize (if gA g i = pR g p then 2 * (i : Int) + 1 else 2 * (i : Int)) = sd at hse hsb2
      rw [zm (by omega), za (x := sd * 15) (by omega), za (by omega)]
      have hph : sd * 15 + na + 1 = ((rPh (pStep g p i) : Nat) : Int) := by
        unfold rPh
        rw [if_pos s2.2]
        omega
      rw [hph]
      have hg1 : ∀ x s, s < 32 → (rGe g some p sets (i + 1) x s ↔ rGe g some p sets i x s ∨ (x = rPh (pStep g p i) ∧ zB y s)) := by
        intro x s hs
        constructor
        · rintro ⟨k, k1, k2, k3, k4⟩
          by_cases e : k = i
          · right
            rw [e] at k3 k4
            exact ⟨k3, (hyb s hs).mpr k4⟩
          · exact Or.inl ⟨k, by omega, k2, k3, k4⟩
        · rintro (⟨k, k1, k2⟩ | ⟨k1, k2⟩)
          · exact ⟨k, by omega, k2⟩
          · exact ⟨i, by omega, c2, k1, (hyb s hs).mp k2⟩
      refine c_Ro_put (d := d) htn hr (fun x s hx hs q => ?_) (rPh_lt s2.1) (fun m4 hr4 hf4 h864 => ?_)
      · rcases q with q | q
        · exact Or.inl (hsub x s hx hs q)
        · exact Or.inr q.1
      have hr5 : rRep m4 tn (fun x s => M x s ∨ rGe g some p sets (i + 1) x s) (fun x s => Fr x s ∨ (rGe g some p sets (i + 1) x s ∧ ¬ M x s)) := by
        refine hr4.cg (fun x s _ hs => ?_) (fun x s _ hs => ?_)
        · rw [hg1 x s hs]
          constructor
          · rintro (q | q | q)
            · exact Or.inl (Or.inl q)
            · exact Or.inl (Or.inr q)
            · exact Or.inr q
          · rintro ((q | q) | q)
            · exact Or.inl q
            · exact Or.inr (Or.inl q)
            · exact Or.inr (Or.inr q)
        · rw [hg1 x s hs]
          constructor
          · rintro (q | ⟨q | q, z⟩)
            · exact Or.inl (Or.inl q)
            · exact Or.inl (Or.inr ⟨q, z⟩)
            · by_cases y2 : rGe g some p sets i x s
              · exact Or.inl (Or.inr ⟨y2, z⟩)
              · exact Or.inr ⟨q.1, q.2, fun y3 => y3.elim z y2⟩
          · rintro ((q | q) | ⟨q1, q2, q3⟩)
            · exact Or.inl q
            · exact Or.inr ⟨Or.inl q.1, q.2⟩
            · exact Or.inr ⟨Or.inr ⟨q1, q2⟩, fun z => q3 (Or.inl z)⟩
      have hf5 : ∀ c, c ≠ 79 → c ≠ 81 + tn → c ≠ 84 + tn → c ≠ 86 → m4 c = mem c := fun c c1 c2 c3 c4 => by rw [hf4 c c1 c2 c3 c4, hf c c1 c2 c3 c4]
      have h865 : ∀ j, j ≠ tn → m4 86 j = mem 86 j := fun j hj => by rw [h864 j hj, h86 j hj]
      have ht1 : rHt g some p sets home wh (i + 1) ↔ rHt g some p sets home wh i ∨ (pR g (pStep g p i) = home ∧ zB y wh) := by
        constructor
        · rintro ⟨k, k1, k2, k3, k4⟩
          by_cases e : k = i
          · right
            rw [e] at k3 k4
            exact ⟨k3, (hyb wh hwh).mpr k4⟩
          · exact Or.inl ⟨k, by omega, k2, k3, k4⟩
        · rintro (⟨k, k1, k2⟩ | ⟨k1, k2⟩)
          · exact ⟨k, by omega, k2⟩
          · exact ⟨i, by omega, c2, k1, (hyb wh hwh).mp k2⟩
      have e775 : m4 77 5 = home := by rw [hf5 77 (by omega) (by omega) (by omega) (by omega)]; exact hcx.1
      have e776 : m4 77 6 = (wh : Int) := by rw [hf5 77 (by omega) (by omega) (by omega) (by omega)]; exact hcx.2.1
      rw [e775, e776]
      have nx : ∀ x' : Int, (x' = 0 ∨ x' = 1) → (x' = 1 ↔ rHt g some p sets home wh (i + 1)) → ∀ x6 : Int, x6 = zadd (i : Int) 1 → zG (d + 2) M_Ro_spread 106 [(2, Int.ofNat 77), (2, Int.ofNat 2), (0, (tn : Int)), (9, 0), (0, sets), (9, 0), (9, 0), (0, pR g p), (9, 0), (9, 0), (0, v), (0, na), (0, x'), (0, x6), (9, 0), (9, 0)] [] m4 Q := by
        intro x' h1 h2 x6 e6
        rw [za (by omega)] at e6
        rw [e6]
        exact ih (i + 1) m4 x' (by omega) h1 h2 hr5 hf5 h865
      have o0 : zor x 0 = x := by rcases hx with e | e <;> rw [e] <;> decide
      have o1 : zor x 1 = 1 := by rcases hx with e | e <;> rw [e] <;> decide
      refine ⟨fun c3 x5 e5 => nx x5 (by rw [e5, o0]; exact hx) ?_, fun c3 => ⟨fun c4 x7 e7 => nx x7 (by rw [e7, o0]; exact hx) ?_, fun c4 x9 e9 => nx x9 (by rw [e9, o1]; omega) ?_⟩⟩
      · rw [e5, o0, hxi, ht1]
        exact ⟨Or.inl, fun q => q.elim id (fun z => absurd z.1 c3)⟩
      · rw [zB_test hy (by omega) (by omega), Int.toNat_natCast] at c4
        rw [e7, o0, hxi, ht1]
        exact ⟨Or.inl, fun q => q.elim id (fun z => absurd z.2 c4)⟩
      · rw [zB_ne hy (by omega) (by omega), Int.toNat_natCast] at c4
        rw [e9, o1, ht1]
        exact ⟨fun _ => Or.inr ⟨c3, c4⟩, fun _ => rfl⟩
    · rw [zB_test hv (by omega) (by omega), hvb _ (by omega), Int.toNat_natCast] at c2
      rw [za (by omega)] at e13
      rw [e13]
      have hge : ∀ x s, rGe g some p sets (i + 1) x s ↔ rGe g some p sets i x s := by
        intro x s
        constructor
        · rintro ⟨k, k1, k2, k3⟩
          by_cases e : k = i
          · rw [e] at k2; exact absurd k2 c2
          · exact ⟨k, by omega, k2, k3⟩
        · rintro ⟨k, k1, k2⟩; exact ⟨k, by omega, k2⟩
      refine ih (i + 1) m x (by omega) hx ?_ (hr.cg (fun x s _ _ => by rw [hge]) (fun x s _ _ => by rw [hge])) hf h86
      rw [hxi]
      constructor
      · rintro ⟨k, k1, k2⟩; exact ⟨k, by omega, k2⟩
      · rintro ⟨k, k1, k2, k3⟩
        by_cases e : k = i
        · rw [e] at k2; exact absurd k2 c2
        · exact ⟨k, by omega, k2, k3⟩
theorem c_Ro_spread (hD : gDo g) (hH : Hs mem 2 g rm) (hc : zpc 14 some ≤ 5) {home : Int} {wh : Nat} (hwh : wh < 32) (hcx : rCx mem some home wh) (htn : tn < 2) (hrep : rRep mem tn M Fr) (hsub : ∀ x s, x < 421 → s < 32 → Fr x s → M x s) (hp : pOK g p) (hpn : 420 ≤ p → p = pNew home ∧ (0 ≤ home ∧ home < 10)) {sets : Int} (hsz : zI sets)
    (hQ : ∀ (m' : zMem) (x : Int), (x = 0 ∨ x = 1) → (x = 1 ↔ rHt g some p sets home wh (gN g).toNat) → rRep m' tn (fun x s => M x s ∨ rGe g some p sets (gN g).toNat x s) (fun x s => Fr x s ∨ (rGe g some p sets (gN g).toNat x s ∧ ¬ M x s)) → (∀ c, c ≠ 79 → c ≠ 81 + tn → c ≠ 84 + tn → c ≠ 86 → m' c = mem c) → (∀ j, j ≠ tn → m' 86 j = mem 86 j) → Q x m') : zC (d + 2) K_Ro_spread [(2, Int.ofNat 77), (2, Int.ofNat 2), (0, (tn : Int)), (0, ((rPh p : Nat) : Int)), (0, sets)] mem Q := by
  have hN := hD.1
  have hl := pL_b hp
  have hpb := pB_b hp
  have e21 : mem 2 1 = gL g := hH.2.1
  have fin : ∀ (v na : Int), zI v → (∀ j, j < 32 → (zB v j ↔ pMay g p j)) → na = (if gL g = 1 then zn4 (pL p) else -1) → zG (d + 2) M_Ro_spread 106 [(2, Int.ofNat 77), (2, Int.ofNat 2), (0, (tn : Int)), (9, 0), (0, sets), (9, 0), (9, 0), (0, pR g p), (9, 0), (9, 0), (0, v), (0, na), (0, 0), (0, 0), (9, 0), (9, 0)] [] mem Q := by
    intro v na hv hvb hna
    refine l_Ro_spread (d := d) hD hH hc hwh hcx htn hrep hsub hp hsz hv hvb hna hQ (gN g).toNat 0 mem 0 (by omega) (Or.inl rfl) ?_ (hrep.cg (fun x s _ _ => ?_) (fun x s _ _ => ?_)) (fun _ _ _ _ _ => rfl) (fun _ _ => rfl)
    · exact ⟨fun q => absurd q (by decide), fun ⟨k, q, _⟩ => absurd q (Nat.not_lt_zero _)⟩
    · exact ⟨fun q => q.elim id (fun ⟨k, q, _⟩ => absurd q (Nat.not_lt_zero _)), Or.inl⟩
    · exact ⟨fun q => q.elim id (fun z => absurd z.1.choose_spec.1 (Nat.not_lt_zero _)), Or.inl⟩
  have s53 : ∀ l5 : Int, (l5 = 0 ∨ l5 = 1) → (l5 = 0 → p < 420) → (l5 = 1 → pB p = -1) → zG (d + 2) M_Ro_spread 53 [(2, Int.ofNat 77), (2, Int.ofNat 2), (0, (tn : Int)), (0, ((rPh p : Nat) : Int)), (0, sets), (0, l5), (9, 0), (0, pR g p), (9, 0), (9, 0), (9, 0), (9, 0), (9, 0), (9, 0), (9, 0), (9, 0)] [(0, zn4 (pL p))] mem Q := by
    intro l5 h5 h50 h51
    have hp420 : p < 420 → zsub (zrem ((rPh p : Nat) : Int) 15) 1 = pB p := by
      intro z
      have h0 := hp.1
      unfold rPh pB
      rw [if_pos z, zr (by omega) (by omega), zs (by omega)]
      omega
    have ch : ∀ (a : Int), a = pB p → ∀ Q2 : Int → zMem → Prop, (∀ v, zI v → (∀ j, j < 32 → (zB v j ↔ pMay g p j)) → Q2 v mem) → zC (d + 1) K_Ho_choices [(2, Int.ofNat 2), (0, pR g p), (0, zn4 (pL p)), (0, a)] mem Q2 := by
      intro a ha Q2 hQ2
      rw [ha]
      exact c_Ho_choices' (d := d) hH hD (pR_b hD hp) (zn4_or hl) (by omega) (fun v hv hb => hQ2 v hv (fun j hj => by rw [hb j hj]; exact pMay_z hp j))
    refine v_Ro_spread_53 ⟨fun c x1 e1 => ch x1 (by rw [e1]; exact hp420 (h50 c)) _ (fun v hv hb => ?_), fun c => ch (-1) (h51 (by omega)).symm _ (fun v hv hb => ?_)⟩
    · rw [e21]
      exact ⟨fun z => fin v (-1) hv hb (by rw [if_neg z]), fun z => fin v _ hv hb (by rw [if_pos z])⟩
    · rw [e21]
      exact ⟨fun z => fin v (-1) hv hb (by rw [if_neg z]), fun z => fin v _ hv hb (by rw [if_pos z])⟩
  refine v_Ro_spread ⟨fun c x1 e1 => ?_, fun c x3 e3 x4 e4 => ?_⟩
  · have hlt : p < 420 := by
      unfold rPh at c
      split at c
      · assumption
      · exact absurd rfl c
    have h0 := hp.1
    have hx1 : x1 = p / 15 := by
      rw [e1, zd (by have := rPh_lt h0; omega) (by omega)]
      unfold rPh
      rw [if_pos hlt]
      omega
    have hp4 := hp.2.2.2 (by omega)
    refine c_Ho_roomOfSide (d := d) (Or.inl rfl) hH hN.2 (by omega) ?_
    have hr : (if x1 % 2 = 0 then gA g (x1 / 2).toNat else gB g (x1 / 2).toNat) = pR g p := by
      unfold pR
      rw [if_neg (show ¬ 28 ≤ p / 15 by omega), hx1]
      split
      · unfold gA; congr 1; omega
      · unfold gB; congr 1; omega
    rw [hr]
    have hs : zshr x1 1 = zn4 (pL p) := by
      rw [zshr_n (by unfold zI; omega) (by omega) (by omega)]
      unfold pL zn4
      rw [if_neg (by omega), if_neg (by omega), hx1]
      show p / 15 / 2 = p / 30
      omega
    rw [hs]
    exact s53 0 (Or.inl rfl) (fun _ => hlt) (by omega)
  · have hge : 420 ≤ p := by
      unfold rPh at c
      split at c
      · have := hp.1; omega
      · omega
    obtain ⟨q1, q2⟩ := hpn hge
    have hn := pRep.new (g := g) q2
    rw [← q1] at hn
    have hr : x4 = pR g p := by rw [e4, hn.2.1]; exact hcx.1
    have hl4 : zn4 (pL p) = -1 := by rw [hn.2.2.1]; rfl
    have hb1 : pB p = -1 := by
      rw [hn.2.2.2]
      split
      · rfl
      · rfl
    have := s53 1 (Or.inr rfl) (by omega) (fun _ => hb1)
    rw [hl4] at this
    rw [hr]
    exact this
end
