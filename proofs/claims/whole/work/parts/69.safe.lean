section
variable {d w : Nat} {mem m m' m2 : zMem} {Q : Int → zMem → Prop} {R S : zMem → Prop} {g : zPg} {b : zBf} {rm pl r t u p : Int} {k s : Nat}
def bSd (g : zPg) : Nat → zBf
  | 0 => b0
  | e + 1 => if gX g (e / 2) = 0 then bPush (bSd g e) (15 * (e : Int)) 0 0 else bSd g e
def gSo (g : zPg) (n : Nat) (p : Int) : Prop := ∃ e : Nat, e < n ∧ gX g (e / 2) = 0 ∧ p = 15 * (e : Int)
theorem bSd_in : ∀ n, bIn (bSd g n) p ↔ gSo g n p
  | 0 => ⟨fun q => absurd q b0_in, fun ⟨e, q, _⟩ => absurd q (Nat.not_lt_zero _)⟩
  | n + 1 => by
    have ih := bSd_in n
    show bIn (if _ then _ else _) p ↔ _
    split
    · rename_i q
      rw [bPush_in, ih]
      constructor
      · rintro (⟨e, z1, z2⟩ | z)
        · exact ⟨e, by omega, z2⟩
        · exact ⟨n, by omega, q, z⟩
      · rintro ⟨e, z1, z2, z3⟩
        by_cases h : e = n
        · right; rw [h] at z3; exact z3
        · exact Or.inl ⟨e, by omega, z2, z3⟩
    · rename_i q
      rw [ih]
      constructor
      · rintro ⟨e, z1, z2⟩
        exact ⟨e, by omega, z2⟩
      · rintro ⟨e, z1, z2, z3⟩
        by_cases h : e = n
        · rw [h] at z2; exact absurd z2 q
        · exact ⟨e, by omega, z2, z3⟩
theorem bPush_seed (h : bWf g b.1 b) (hp : pOK g p) (hn : ¬ bIn b p) : bWf g (bPush b p 0 0).1 (bPush b p 0 0) := by
  obtain ⟨w0, w1, w2, w3, w4⟩ := h
  have hle := bPush_le (b := b) p 0 0
  have hat := bPush_at (b := b) (p := p) (f := 0) (z := 0)
  have hlt : ∀ i, i < (bPush b p 0 0).1 → i < b.1 ∨ i = b.1 := fun i hi => by
    have : i < b.1 + 1 := hi
    omega
  refine ⟨Nat.le_refl _, fun i hi => ?_, fun i j hij hj => ?_, fun i hs hi => absurd hi (by omega), fun i hi => ?_⟩
  · rcases hlt i hi with q | q
    · rw [hle.2 i q]; exact w1 i q
    · rw [q, hat]
      exact ⟨hp, by show 0 ≤ (0 : Int) ∧ (0 : Int) ≤ (b.1 : Int); omega⟩
  · rcases hlt j hj with q | q
    · rw [hle.2 j q, hle.2 i (by omega)]
      exact w2 i j hij q
    · rw [q, hat, hle.2 i (by omega)]
      exact fun z => hn ⟨i, by omega, z⟩
  · rcases hlt i hi with q | q
    · rw [hle.2 i q]; exact w4 i q
    · rw [q, hat]
theorem bSd_nin {n : Nat} : ¬ bIn (bSd g n) (15 * (n : Int)) := by
  rw [bSd_in]
  rintro ⟨e, q, -, z⟩
  omega
theorem bSd_wf (hD : gDo g) : ∀ n : Nat, (n : Int) ≤ 2 * gN g → bWf g (bSd g n).1 (bSd g n)
  | 0, _ => b0_wf
  | n + 1, h => by
    have ih := bSd_wf hD n (by omega)
    by_cases q : gX g (n / 2) = 0
    · have e : bSd g (n + 1) = bPush (bSd g n) (15 * (n : Int)) 0 0 := if_pos q
      rw [e]
      exact bPush_seed ih (pSd_at hD (e := (n : Int)) (by omega)).1 bSd_nin
    · have e : bSd g (n + 1) = bSd g n := if_neg q
      rw [e]
      exact ih
theorem safe_O (hD : gDo g) {n : Nat} (hn : (n : Int) ≤ 2 * gN g) (h : pRe g (gSo g n) p) : pOK g p ∧ 0 ≤ pL p ∧ gO g (pR g p) (pL p).toNat := by
  refine pRe.ind (P := fun p => pOK g p ∧ 0 ≤ pL p ∧ gO g (pR g p) (pL p).toNat) (fun p hp => ?_) (fun p k _ hp hm => ?_) h
  · obtain ⟨e, e1, e2, e3⟩ := hp
    obtain ⟨a1, a2, a3, a4⟩ := pSd_at hD (e := (e : Int)) (by omega)
    rw [e3]
    refine ⟨a1, by omega, ?_⟩
    rw [a2, a3]
    exact gRm_O (by omega) (by rw [show ((e : Int) / 2).toNat = e / 2 by omega]; exact e2)
  · obtain ⟨s1, s2, s3, s4, s5⟩ := pStep_ok hD hp.1 (d := k) hm.1.1
    refine ⟨s1, by omega, ?_⟩
    rw [s3, s4, Int.toNat_natCast]
    exact (gBy_O hD hm.1).1
/-- safe, as the reference searches it, is what House looks at -/
theorem safe_iff (hD : gDo g) (hr : ∀ k : Nat, (k : Int) < gN g → gA g k < rm ∧ gB g k < rm) : (∀ p, pRe g (gSo g (2 * gN g).toNat) p → ∃ j, pMay g p j) ↔ ∀ r : Int, 0 ≤ r → r < rm → ¬ gLo g r := by
  have hN := hD.1
  constructor
  · intro h r r0 r1 hlo
    rcases hlo with ⟨k, ho, hl⟩ | ⟨hL, k, ho, e, he, hek, hl⟩
    · obtain ⟨e, e1, e2, e3⟩ := gO_side ho
      obtain ⟨j, hj⟩ := h (15 * e) (pRe.seed ⟨e.toNat, by omega, by rw [show e.toNat / 2 = k by omega]; exact ho.2.1, by omega⟩)
      rw [pSd_may hD e1, e2, e3] at hj
      exact hl j (gMay_lt hD hj) hj
    · have he : gO g (gBy g k r) e := he
      obtain ⟨x, x1, x2, x3⟩ := gO_side he
      obtain ⟨a1, a2, a3, a4⟩ := pSd_at hD x1
      obtain ⟨b1, b2, b3⟩ := gBy_O hD ho
      have hm : pMay g (15 * x) k := by
        rw [pSd_may hD x1, x2, x3]
        refine ⟨b1, fun q => ?_⟩
        unfold gBar at q
        omega
      obtain ⟨s1, s2, s3, s4, s5⟩ := pStep_ok hD a1 (d := k) ho.1
      obtain ⟨j, hj⟩ := h (pStep g (15 * x) k) ((pRe.seed ⟨x.toNat, by omega, by rw [show x.toNat / 2 = e by omega]; exact he.2.1, by omega⟩).step hm)
      unfold pMay at hj
      rw [s3, s4, s5, a2, x3, b2, if_pos hL, a3, x2] at hj
      have : zn4 (e : Int) = e := by unfold zn4; rw [if_neg (by omega)]
      rw [this] at hj
      exact hl j (gMay_lt hD hj) hj
  · intro h p hp
    refine Classical.byContradiction fun hno => ?_
    have hno : ∀ j, ¬ pMay g p j := fun j q => hno ⟨j, q⟩
    obtain ⟨o1, o2, o3⟩ := safe_O hD (by omega) hp
    obtain ⟨ra, rb⟩ := hr _ o3.1
    obtain ⟨da, db, -⟩ := hD.2.2 _ o3.1
    have hrb : 0 ≤ pR g p ∧ pR g p < rm := by rcases o3.2.2 with z | z <;> omega
    refine h (pR g p) hrb.1 hrb.2 ?_
    obtain ⟨n, hn⟩ := hp
    cases n with
    | zero =>
      obtain ⟨e, e1, e2, e3⟩ := hn
      obtain ⟨a1, a2, a3, a4⟩ := pSd_at hD (e := (e : Int)) (by omega)
      left
      refine ⟨(pL p).toNat, o3, fun j _ hj => hno j ?_⟩
      unfold pMay
      rw [e3] at hj ⊢
      rw [a3] at hj ⊢
      rw [Int.toNat_of_nonneg (by omega)] at hj
      rw [a4]
      exact hj
    | succ n =>
      obtain ⟨q, k, q1, q2, q3⟩ := hn
      obtain ⟨p1, p2, p3⟩ := safe_O hD (by omega) ⟨n, q1⟩
      obtain ⟨s1, s2, s3, s4, s5⟩ := pStep_ok hD p1 (d := k) q2.1.1
      have o3' : gO g (gBy g k (pR g q)) k := (gBy_O hD q2.1).1
      rw [← s3, ← q3] at o3'
      by_cases hL : gL g = 1
      · right
        refine ⟨hL, k, o3', (pL q).toNat, ?_, fun z => ?_, fun j _ hj => hno j ?_⟩
        · have : gBy g k (pR g p) = pR g q := by rw [q3, s3]; exact (gBy_O hD q2.1).2.1
          show gO g (gBy g k (pR g p)) _
          rw [this]
          exact p3
        · refine q2.2 ⟨p2, Or.inr (Or.inl ⟨hL, Or.inl (by omega)⟩)⟩
        · unfold pMay
          have e5 : zn4 (pL q) = pL q := by unfold zn4; rw [if_neg (by omega)]
          rw [if_pos hL, e5] at s5
          rw [q3, s4, s5, ← q3]
          rw [Int.toNat_of_nonneg p2] at hj
          exact hj
      · left
        refine ⟨k, o3', fun j _ hj => hno j ?_⟩
        unfold pMay
        rw [if_neg hL] at s5
        rw [q3, s4, s5, ← q3]
        exact hj
theorem l_Mo_isSafe6 (hD : gDo (mem 123)) (hQ : ∀ m' : zMem, fRep m' (bSd (mem 123) (2 * gN (mem 123)).toNat) → fFr mem m' → zC (d + 4) K_Mo_spreads [(2, Int.ofNat 122)] m' (fun r2 m2 => zG (d + 5) M_Mo_isSafe 64 [(2, Int.ofNat 122), (0, 0)] [] m2 Q)) : ∀ (n i : Nat) (m : zMem), i + n = (2 * gN (mem 123)).toNat → fRep m (bSd (mem 123) i) → fFr mem m → zG (d + 5) M_Mo_isSafe 6 [(2, Int.ofNat 122), (0, (i : Int))] [] m Q := by
  have hN := hD.1
  intro n
  induction n with
  | zero =>
    intro i m hi hr hf
    have e56 : m 123 56 = gN (mem 123) := by rw [hf.pg]; rfl
    refine v_Mo_isSafe_6 (c_Mo_doorMany (d := d + 3) ?_)
    rw [e56, zm (x := 2) (by omega)]
    exact ⟨fun c => hQ m (by rw [show (2 * gN (mem 123)).toNat = i by omega]; exact hr) hf, fun c => by omega⟩
  | succ n ih =>
    intro i m hi hr hf
    have e3 := hf.pg
    have e56 : m 123 56 = gN (mem 123) := by rw [e3]; rfl
    refine v_Mo_isSafe_6 (c_Mo_doorMany (d := d + 3) ?_)
    rw [e56, zm (x := 2) (by omega)]
    refine ⟨fun c => by omega, fun c => ?_⟩
    rw [zd (by omega) (by omega), zr (by omega) (by omega), zm (by omega), za (x := 4 * ((i : Int) / 2)) (by omega), show (4 * ((i : Int) / 2) + 3).toNat = 4 * (i / 2) + 3 by omega, e3]
    refine ⟨by omega, fun c2 x3 f3 => ?_, fun c2 => ?_⟩
    · rw [za (by omega)] at f3
      rw [f3]
      refine ih (i + 1) m (by omega) ?_ hf
      have e : bSd (mem 123) (i + 1) = bSd (mem 123) i := if_neg c2
      rw [e]
      exact hr
    · have hb : (i : Int) / 2 < 14 := by omega
      refine c_Mo_placeOf (d := d + 3) (by omega) (by omega) (Or.inl rfl) (by omega) ?_
      have e : pMk 0 ((i : Int) / 2) (-4) ((i : Int) % 2) = 15 * (i : Int) := by
        unfold pMk
        rw [if_neg (by omega), if_pos rfl]
        omega
      rw [e]
      have hw := bSd_wf hD (g := mem 123) i (by omega)
      have hp := (pSd_at hD (e := (i : Int)) (by omega)).1
      refine c_Mo_finds (d := d + 3) (g := mem 123) (fi := 0) hr hw ⟨by omega, by omega⟩ (fun hn => ?_) (Int.le_refl _) (fun q => absurd q (by decide)) (fun q => absurd q bSd_nin) (fun _ m2 hr2 hf2 x6 e6 => ?_)
      · have := (bPush_seed hw hp hn).sz
        have : (bSd (mem 123) i).1 + 1 ≤ 570 := this
        omega
      · rw [za (by omega)] at e6
        rw [e6]
        refine ih (i + 1) m2 (by omega) ?_ (hf.trans hf2)
        have e : bSd (mem 123) (i + 1) = bPush (bSd (mem 123) i) (15 * (i : Int)) 0 0 := if_pos c2
        rw [e]
        exact hr2
theorem l_Mo_isSafe64 {K : Nat} (hw : bWf (mem 123) s b) (hr : fRep mem (bQ (mem 123) b K)) (hD : gDo (mem 123)) (hK : (bQ (mem 123) b K).1 ≤ K)
    (hQ1 : (∀ p, pRe (mem 123) (bIn b) p → ∃ j, pMay (mem 123) p j) → Q 1 mem) (hQ0 : ¬ (∀ p, pRe (mem 123) (bIn b) p → ∃ j, pMay (mem 123) p j) → Q 0 mem) : ∀ (n i : Nat), i + n = 571 → (∀ x, x < i → ∃ j, pMay (mem 123) (bE (mem 123) b x).1 j) → zG (d + 5) M_Mo_isSafe 64 [(2, Int.ofNat 122), (0, (i : Int))] [] mem Q := by
  have hwK := bQ_wf hD hw K
  have hsz := hwK.sz
  have fin : ∀ i : Nat, (bQ (mem 123) b K).1 ≤ i → (∀ x, x < i → ∃ j, pMay (mem 123) (bE (mem 123) b x).1 j) → Q 1 mem := by
    intro i hi h
    refine hQ1 (fun p hp => ?_)
    obtain ⟨x, x1, x2⟩ := (bV_reach hD hw).mpr hp
    rw [← x2]
    refine h x ?_
    rcases Nat.lt_or_ge x i with q | q
    · exact q
    · have h1 := bV_dn x1 (show (bQ (mem 123) b K).1 ≤ x by omega)
      unfold bV at h1
      have := (bQ_le (g := mem 123) (b := b) K hK).1
      omega
  intro n
  induction n with
  | zero =>
    intro i hi h
    refine v_Mo_isSafe_64 ⟨fun c => fin i (by omega) h, fun c => ?_⟩
    rw [hr.1] at c
    omega
  | succ n ih =>
    intro i hi h
    refine v_Mo_isSafe_64 ⟨fun c => fin i (by have := hr.1; omega) h, fun c => ⟨by have := hr.1; omega, ?_⟩⟩
    have hi2 : i < (bQ (mem 123) b K).1 := by have := hr.1; omega
    have hpk := (hwK.2.1 i hi2).1
    rw [Int.toNat_natCast, (hr.2.1 i hi2).1]
    rw [bE_of hi2] at hpk ⊢
    refine c_Mo_isLost (d := d) hpk hD (fun hl => ⟨fun q => absurd q (by decide), fun _ => hQ0 (fun q => ?_)⟩) (fun hl => ⟨fun _ x2 e2 => ?_, fun q => absurd rfl q⟩)
    · obtain ⟨j, hj⟩ := q _ ((bV_reach hD hw).mp ⟨i, bV_of hi2, rfl⟩)
      exact hl j hj
    · rw [za (by omega)] at e2
      rw [e2]
      refine ih (i + 1) (by omega) (fun x hx => ?_)
      by_cases e : x = i
      · rw [e]
        exact Classical.byContradiction fun q => hl (fun j z => q ⟨j, z⟩)
      · exact h x (by omega)
theorem c_Mo_isSafe (hD : gDo (mem 123)) (hrr : ∀ k : Nat, (k : Int) < gN (mem 123) → gA (mem 123) k < rm ∧ gB (mem 123) k < rm) (hQ1 : ∀ m', fFr mem m' → (∀ r : Int, 0 ≤ r → r < rm → ¬ gLo (mem 123) r) → Q 1 m') (hQ0 : ∀ m', fFr mem m' → ¬ (∀ r : Int, 0 ≤ r → r < rm → ¬ gLo (mem 123) r) → Q 0 m') : zC (d + 5) K_Mo_isSafe [(2, Int.ofNat 122)] mem Q := by
  have hN := hD.1
  refine v_Mo_isSafe (c_Mo_begins (d := d + 3) (fun m1 h1 h2 f1 => ?_))
  have e1 := f1.pg
  refine l_Mo_isSafe6 (d := d) (mem := m1) (by rw [e1]; exact hD) (fun m2 hr2 f2 => ?_) (2 * gN (m1 123)).toNat 0 m1 (by omega) (b0_rep h1 h2) fFr.refl
  have e2 : m2 123 = mem 123 := by rw [f2.pg, e1]
  rw [e1] at hr2
  have hw := bSd_wf hD (g := mem 123) (2 * gN (mem 123)).toNat (by omega)
  refine c_Mo_spreads (d := d + 1) (mem := m2) (s := (bSd (mem 123) (2 * gN (mem 123)).toNat).1) (b0 := bSd (mem 123) (2 * gN (mem 123)).toNat) (by rw [e2]; exact hD) (by rw [e2]; exact hw) hr2 (fun m3 K hr3 hK f3 => ?_)
  have e3 : m3 123 = mem 123 := by rw [f3.pg, e2]
  rw [e2] at hr3 hK
  have e : bIn (bSd (mem 123) (2 * gN (mem 123)).toNat) = gSo (mem 123) (2 * gN (mem 123)).toNat := by
    funext p
    exact propext (bSd_in _)
  refine l_Mo_isSafe64 (d := d) (mem := m3) (s := (bSd (mem 123) (2 * gN (mem 123)).toNat).1) (b := bSd (mem 123) (2 * gN (mem 123)).toNat) (K := K) (by rw [e3]; exact hw) (by rw [e3]; exact hr3) (by rw [e3]; exact hD) (by rw [e3]; exact hK) (fun h => hQ1 m3 ((f1.trans f2).trans f3) ?_) (fun h => hQ0 m3 ((f1.trans f2).trans f3) (fun q => h ?_)) 571 0 (by omega) (fun x hx => by omega)
  · rw [e3, e] at h
    exact (safe_iff hD hrr).mp h
  · rw [e3, e]
    exact (safe_iff hD hrr).mpr q
theorem T_safe (hI : Inv mem) (hR : ∀ m', Inv m' → R m') : zC (d + 6) K_Od_safe [(2, Int.ofNat 0)] mem (fun r1 m1 => zC (d + 6) K_Mo_safe [(2, Int.ofNat 122)] m1 (fun r2 m2 => (r1 = r2 → R m2) ∧ (r1 ≠ r2 → S m2))) := by
  obtain ⟨⟨w1, w2, w3, w4⟩, hP⟩ := id hI.1
  have ref : ∀ v : Int, ((∀ r : Int, 0 ≤ r → r < mem 122 1 → ¬ gLo (mem 123) r) → v = 1) → (¬ (∀ r : Int, 0 ≤ r → r < mem 122 1 → ¬ gLo (mem 123) r) → v = 0) → zC (d + 6) K_Mo_safe [(2, Int.ofNat 122)] mem (fun r2 m2 => (v = r2 → R m2) ∧ (v ≠ r2 → S m2)) := fun v h1 h0 =>
    v_Mo_safe (c_Mo_isSafe (d := d) w1 w3 (fun m' hf h => ⟨fun q => absurd q (by decide), fun _ => ⟨fun _ => hR m' (hI.sc hf.sc), fun q => absurd (h1 h) q⟩⟩) (fun m' hf h => ⟨fun _ => ⟨fun _ => hR m' (hI.sc hf.sc), fun q => absurd (h0 h) q⟩, fun q => absurd rfl q⟩))
  refine v_Od_safe (c_Ho_losing (d := d + 1) (Or.inl rfl) hP.1 w1 (by omega) w2.2 (fun v hv hb => ?_))
  have hz : v = 0 ↔ ∀ r : Int, 0 ≤ r → r < mem 122 1 → ¬ gLo (mem 123) r := by
    rw [zB_z hv]
    constructor
    · intro q r r0 r1 hlo
      refine q r.toNat (by omega) ((hb r.toNat (by omega)).mpr ?_)
      rw [Int.toNat_of_nonneg r0]
      exact ⟨r1, hlo⟩
    · intro q j hj z
      obtain ⟨z1, z2⟩ := (hb j hj).mp z
      exact q j (by omega) z1 z2
  exact ⟨fun c => ref 0 (fun q => absurd (hz.mpr q) c) (fun _ => rfl), fun c => ref 1 (fun _ => rfl) (fun q => absurd (hz.mp c) q)⟩
end
