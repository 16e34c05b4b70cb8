section
/-! The reference's search. -/
variable {d w : Nat} {mem m m' m2 : zMem} {Q : Int → zMem → Prop} {g : zPg} {b : zBf} {rm pl r t u : Int} {k s : Nat}
def fRep (m : zMem) (b : zBf) : Prop := m 122 24 = b.1 ∧ (∀ i, i < b.1 → m 131 i = (b.2 i).1 ∧ m 128 (b.2 i).1.toNat = (b.2 i).2.2 ∧ (1 ≤ (b.2 i).2.2 → m 129 (b.2 i).1.toNat = (b.2 (b.2 i).2.1).1 ∧ m 130 (b.2 i).1.toNat = pL (b.2 i).1)) ∧ ∀ p : Nat, p < 570 → ¬ bIn b p → m 128 p = -4
/-- only the search's own rows have changed -/
def fFr (mem m' : zMem) : Prop := (∀ k, k ≠ 122 → (k < 128 ∨ 131 < k) → m' k = mem k) ∧ ∀ j, j ≠ 24 → m' 122 j = mem 122 j
theorem fFr.refl : fFr mem mem := ⟨fun _ _ _ => rfl, fun _ _ => rfl⟩
theorem fFr.trans (h : fFr mem m') (h' : fFr m' m2) : fFr mem m2 := ⟨fun k k1 k2 => by rw [h'.1 k k1 k2, h.1 k k1 k2], fun j hj => by rw [h'.2 j hj, h.2 j hj]⟩
theorem fFr.sc (h : fFr mem m') : zKp mem m' := ⟨fun k hk => h.1 k (by omega) (by omega), fun k k1 k2 => h.1 k (by omega) (by omega), fun k k1 k2 => h.1 k (by omega) (by omega), fun j hj => h.2 j (by omega)⟩
theorem fFr.pg (h : fFr mem m') : m' 123 = mem 123 := h.1 123 (by omega) (by omega)
theorem c_Mo_finds (hr : fRep mem b) (hw : bWf g s b) {p f by_ z : Int} {fi : Nat} (hp : 0 ≤ p ∧ p < 570) (hsz : ¬ bIn b p → b.1 < 570) (hz : 0 ≤ z) (hf : 1 ≤ z → fi < b.1 ∧ f = (b.2 fi).1 ∧ by_ = pL p)
    (hQ1 : bIn b p → Q 0 mem) (hQ0 : ¬ bIn b p → ∀ m', fRep m' (bPush b p fi z) → fFr mem m' → Q 0 m') : zC (d + 1) K_Mo_finds [(2, Int.ofNat 122), (0, p), (0, z), (0, f), (0, by_)] mem Q := by
  obtain ⟨r1, r2, r3⟩ := id hr
  have nin : mem 128 p.toNat = -4 ↔ ¬ bIn b p := by
    constructor
    · rintro q ⟨i, hi, e⟩
      have := (r2 i hi).2.1
      rw [e, q] at this
      have := (hw.2.1 i hi).2.1
      omega
    · intro q
      exact r3 p.toNat (by omega) (by rw [Int.toNat_of_nonneg hp.1]; exact q)
  refine v_Mo_finds ⟨hp, fun c => hQ1 (Classical.byContradiction fun q => c (nin.mpr q)), fun c => ⟨hp, fun m1 e1 => ⟨hp, fun m2 e2 => ⟨hp, fun m3 e3 => ?_⟩⟩⟩⟩
  have hn := nin.mp c
  have hs := hsz hn
  have z3 : m3 122 24 = b.1 := by rw [e3, zup_k (by omega), e2, zup_k (by omega), e1, zup_k (by omega), r1]
  rw [z3, Int.toNat_natCast]
  refine ⟨by omega, fun m4 e4 m5 e5 => ?_⟩
  have z4 : m4 122 24 = b.1 := by rw [e4, zup_k (by omega), z3]
  rw [z4, za (by omega)] at e5
  have a128 : ∀ x, m5 128 x = if x = p.toNat then z else mem 128 x := fun x => by
    rw [e5, zup_k (by omega), e4, zup_k (by omega), e3, zup_k (by omega), e2, zup_k (by omega), e1, zup_at]
    by_cases h : x = p.toNat
    · rw [if_pos ⟨rfl, h⟩, if_pos h]
    · rw [if_neg (fun q => h q.2), if_neg h]
  have a129 : ∀ x, m5 129 x = if x = p.toNat then f else mem 129 x := fun x => by
    rw [e5, zup_k (by omega), e4, zup_k (by omega), e3, zup_k (by omega), e2, zup_at, e1, zup_k (by omega)]
    by_cases h : x = p.toNat
    · rw [if_pos ⟨rfl, h⟩, if_pos h]
    · rw [if_neg (fun q => h q.2), if_neg h]
  have a130 : ∀ x, m5 130 x = if x = p.toNat then by_ else mem 130 x := fun x => by
    rw [e5, zup_k (by omega), e4, zup_k (by omega), e3, zup_at, e2, zup_k (by omega), e1, zup_k (by omega)]
    by_cases h : x = p.toNat
    · rw [if_pos ⟨rfl, h⟩, if_pos h]
    · rw [if_neg (fun q => h q.2), if_neg h]
  have a131 : ∀ x, m5 131 x = if x = b.1 then p else mem 131 x := fun x => by
    rw [e5, zup_k (by omega), e4, zup_at, e3, zup_k (by omega), e2, zup_k (by omega), e1, zup_k (by omega)]
    by_cases h : x = b.1
    · rw [if_pos ⟨rfl, h⟩, if_pos h]
    · rw [if_neg (fun q => h q.2), if_neg h]
  have hle := bPush_le (b := b) p fi z
  have hat := bPush_at (b := b) (p := p) (f := fi) (z := z)
  refine hQ0 hn m5 ⟨?_, fun i hi => ?_, fun x hx hnx => ?_⟩ ⟨fun k k1 k2 => ?_, fun j hj => ?_⟩
  · rw [e5, zup_e]
    show _ = ((b.1 + 1 : Nat) : Int)
    omega
  · by_cases hib : i = b.1
    · rw [hib, hat]
      dsimp only
      rw [a131, a128, a129, a130, if_pos rfl, if_pos rfl, if_pos rfl, if_pos rfl]
      refine ⟨rfl, rfl, fun q => ?_⟩
      obtain ⟨f1, f2, f3⟩ := hf q
      rw [hle.2 fi f1]
      exact ⟨f2, f3⟩
    · have hi2 : i < b.1 := by have : i < b.1 + 1 := hi; omega
      rw [hle.2 i hi2]
      have hne : (b.2 i).1.toNat ≠ p.toNat := by
        have h1 := (hw.2.1 i hi2).1.1
        have : (b.2 i).1 ≠ p := fun q => hn ⟨i, hi2, q⟩
        omega
      obtain ⟨o1, o2, o3⟩ := r2 i hi2
      rw [a131, a128, a129, a130, if_neg hib, if_neg hne, if_neg hne, if_neg hne]
      refine ⟨o1, o2, fun q => ?_⟩
      obtain ⟨o4, o5⟩ := o3 q
      refine ⟨?_, o5⟩
      rw [o4]
      have hs2 : s ≤ i := Nat.le_of_not_lt fun z => by have := hw.2.2.2.2 i z; omega
      rw [hle.2 _ (by have := (hw.2.2.2.1 i hs2 hi2).2.1; omega)]
  · rw [a128]
    have hx2 : x ≠ p.toNat := by
      intro q
      apply hnx
      rw [bPush_in]
      right
      omega
    rw [if_neg hx2]
    refine r3 x hx (fun q => hnx ?_)
    rw [bPush_in]
    exact Or.inl q
  · funext j
    rw [e5, zup_k k1, e4, zup_k (by omega), e3, zup_k (by omega), e2, zup_k (by omega), e1, zup_k (by omega)]
  · rw [e5, zup_j hj, e4, zup_k (by omega), e3, zup_k (by omega), e2, zup_k (by omega), e1, zup_k (by omega)]
theorem l_Mo_begins (hQ : ∀ m', (∀ p, p < 570 → m' 128 p = -4) → m' 122 24 = 0 → fFr mem m' → Q 0 m') : ∀ (n i : Nat) (m : zMem), i + n = 570 → (∀ p, p < i → m 128 p = -4) → m 122 24 = 0 → fFr mem m → zG (d + 1) M_Mo_begins 7 [(2, Int.ofNat 122), (0, (i : Int))] [] m Q := by
  intro n
  induction n with
  | zero =>
    intro i m hi h1 h2 h3
    exact v_Mo_begins_7 ⟨fun c => hQ m (fun p hp => h1 p (by omega)) h2 h3, fun c => by omega⟩
  | succ n ih =>
    intro i m hi h1 h2 h3
    refine v_Mo_begins_7 ⟨fun c => by omega, fun c => ⟨by omega, fun m1 e1 x1 f1 => ?_⟩⟩
    rw [za (by omega)] at f1
    rw [f1]
    rw [Int.toNat_natCast] at e1
    refine ih (i + 1) m1 (by omega) (fun p hp => ?_) (by rw [e1, zup_k (by omega), h2]) (h3.trans ⟨fun k k1 k2 => ?_, fun j hj => ?_⟩)
    · rw [e1, zup_at]
      by_cases h : p = i
      · rw [if_pos ⟨rfl, h⟩]
      · rw [if_neg (fun q => h q.2)]
        exact h1 p (by omega)
    · funext j; rw [e1, zup_k (by omega)]
    · rw [e1, zup_k (by omega)]
theorem c_Mo_begins (hQ : ∀ m', (∀ p, p < 570 → m' 128 p = -4) → m' 122 24 = 0 → fFr mem m' → Q 0 m') : zC (d + 1) K_Mo_begins [(2, Int.ofNat 122)] mem Q :=
  v_Mo_begins fun m1 e1 => l_Mo_begins hQ 570 0 m1 (by omega) (fun p hp => by omega) (by rw [e1, zup_e]) ⟨fun k k1 k2 => by funext j; rw [e1, zup_k k1], fun j hj => by rw [e1, zup_j hj]⟩
/-- what an empty search is -/
def b0 : zBf := (0, fun _ => (0, 0, 0))
theorem b0_wf : bWf g 0 b0 := ⟨Nat.le_refl _, fun i hi => absurd hi (Nat.not_lt_zero _), fun i j _ hj => absurd hj (Nat.not_lt_zero _), fun i _ hi => absurd hi (Nat.not_lt_zero _), fun i hi => absurd hi (Nat.not_lt_zero _)⟩
theorem b0_rep (h1 : ∀ p, p < 570 → m 128 p = -4) (h2 : m 122 24 = 0) : fRep m b0 := ⟨h2, fun i hi => absurd hi (Nat.not_lt_zero _), fun p hp _ => h1 p hp⟩
theorem b0_in {p : Int} : ¬ bIn b0 p := fun ⟨i, hi, _⟩ => absurd hi (Nat.not_lt_zero _)
theorem l_Mo_spreads (hD : gDo (mem 123)) {b0 : zBf} (hw : bWf (mem 123) s b0) (hQ : ∀ (m' : zMem) (K : Nat), fRep m' (bQ (mem 123) b0 K) → (bQ (mem 123) b0 K).1 ≤ K → fFr mem m' → Q 0 m') : ∀ (n k : Nat) (m : zMem), k + n = 571 → fRep m (bQ (mem 123) b0 k) → fFr mem m → zG (d + 3) M_Mo_spreads 2 [(2, Int.ofNat 122), (0, (k : Int)), (9, 0), (9, 0), (9, 0)] [] m Q := by
  have hN := hD.1
  intro n
  induction n with
  | zero =>
    intro k m hk hr hf
    have hsz := (bQ_wf hD hw k).sz
    refine v_Mo_spreads_2 ⟨fun c => hQ m k hr (by omega) hf, fun c => ?_⟩
    rw [hr.1] at c
    omega
  | succ n ih =>
    intro k m hk hr hf
    have hwk := bQ_wf hD hw k
    have hsz := hwk.sz
    refine v_Mo_spreads_2 ⟨fun c => hQ m k hr (by have := hr.1; omega) hf, fun c => ⟨by have := hr.1; omega, fun x1 e1 => ?_⟩⟩
    have hk2 : k < (bQ (mem 123) b0 k).1 := by have := hr.1; omega
    rw [Int.toNat_natCast, (hr.2.1 k hk2).1] at e1
    -- the doors
    have inner : ∀ (n2 i : Nat) (m : zMem), i + n2 = (gN (mem 123)).toNat → fRep m (bSp (mem 123) k i (bQ (mem 123) b0 k)) → fFr mem m → zG (d + 3) M_Mo_spreads 19 [(2, Int.ofNat 122), (0, (k : Int)), (0, x1), (0, (i : Int)), (9, 0)] [] m Q := by
      intro n2
      induction n2 with
      | zero =>
        intro i m hi hr hf
        have e56 : m 123 56 = gN (mem 123) := by rw [hf.pg]; rfl
        refine v_Mo_spreads_19 (c_Mo_doorMany (d := d + 1) ⟨fun c x2 e2 => ?_, fun c => by omega⟩)
        rw [za (by omega)] at e2
        rw [e2]
        refine ih (k + 1) m (by omega) ?_ hf
        show fRep m (if _ then _ else _)
        rw [if_pos hk2, show (gN (mem 123)).toNat = i by omega]
        exact hr
      | succ n2 ih2 =>
        intro i m hi hr hf
        have e3 := hf.pg
        have e56 : m 123 56 = gN (mem 123) := by rw [e3]; rfl
        have hle := bSp_le (g := mem 123) (k := k) (b := bQ (mem 123) b0 k) i
        have hw2 := bSp_wf hD hwk hk2 i
        have hk3 : k < (bSp (mem 123) k i (bQ (mem 123) b0 k)).1 := Nat.lt_of_lt_of_le hk2 hle.1
        have hek : (bSp (mem 123) k i (bQ (mem 123) b0 k)).2 k = (bQ (mem 123) b0 k).2 k := hle.2 k hk2
        have hp := (hwk.2.1 k hk2).1
        have hlen := (hwk.2.1 k hk2).2
        rw [← e1] at hp
        have hi14 : (i : Int) < gN (mem 123) := by omega
        obtain ⟨s1, s2, s3, s4, s5⟩ := pStep_ok hD hp (d := i) hi14
        have next : bSp (mem 123) k (i + 1) (bQ (mem 123) b0 k) = bDo (mem 123) k (bSp (mem 123) k i (bQ (mem 123) b0 k)) i := rfl
        have skip : bSp (mem 123) k (i + 1) (bQ (mem 123) b0 k) = bSp (mem 123) k i (bQ (mem 123) b0 k) → zG (d + 3) M_Mo_spreads 19 [(2, Int.ofNat 122), (0, (k : Int)), (0, x1), (0, (i : Int) + 1), (9, 0)] [] m Q := by
          intro q
          exact ih2 (i + 1) m (by omega) (by rw [q]; exact hr) hf
        refine v_Mo_spreads_19 (c_Mo_doorMany (d := d + 1) ⟨fun c => by omega, fun c => ?_⟩)
        refine c_Mo_stepped (d := d) (by rw [e3]; exact hp) (by rw [e3]; exact hD) (by rw [e3]; omega) (fun hm => ?_) (fun hm => ⟨fun _ x4 e4 => ?_, fun q => absurd rfl q⟩)
        · rw [e3, Int.toNat_natCast] at hm ⊢
          refine ⟨fun q => by omega, fun _ => ⟨by have := hp.1; have := hp.2.1; omega, ?_⟩⟩
          have q128 : m 128 x1.toNat = ((bQ (mem 123) b0 k).2 k).2.2 := by
            have := (hr.2.1 k hk3).2.1
            rw [hek, ← e1] at this
            exact this
          rw [q128, za (by omega)]
          refine c_Mo_finds (d := d + 1) (fi := k) hr hw2 (by omega) (fun hn => ?_) (by omega) (fun _ => ⟨hk3, by rw [hek]; exact e1, s4.symm⟩) (fun hin x6 e6 => ?_) (fun hn m3 hr3 hf3 x6 e6 => ?_)
          · have := (bPush_wf hw2 hk3 s1 s2.2 hn).sz
            have : (bSp (mem 123) k i (bQ (mem 123) b0 k)).1 + 1 ≤ 570 := this
            omega
          · rw [za (by omega)] at e6
            rw [e6]
            refine skip ?_
            rw [next]
            unfold bDo
            rw [hek, ← e1, if_neg (fun q => q.2 hin)]
          · rw [za (by omega)] at e6
            rw [e6]
            refine ih2 (i + 1) m3 (by omega) ?_ (hf.trans hf3)
            rw [next]
            unfold bDo
            rw [hek, ← e1, if_pos ⟨hm, hn⟩]
            exact hr3
        · rw [e3, Int.toNat_natCast] at hm
          rw [za (by omega)] at e4
          rw [e4]
          refine skip ?_
          rw [next]
          unfold bDo
          rw [hek, ← e1, if_neg (fun q => hm q.1)]
    exact inner (gN (mem 123)).toNat 0 m (by omega) hr hf
theorem c_Mo_spreads (hD : gDo (mem 123)) {b0 : zBf} (hw : bWf (mem 123) s b0) (hr : fRep mem b0) (hQ : ∀ (m' : zMem) (K : Nat), fRep m' (bQ (mem 123) b0 K) → (bQ (mem 123) b0 K).1 ≤ K → fFr mem m' → Q 0 m') : zC (d + 3) K_Mo_spreads [(2, Int.ofNat 122)] mem Q :=
  v_Mo_spreads (l_Mo_spreads hD hw hQ 571 0 mem (by omega) hr fFr.refl)
theorem c_Mo_laysFrom (hD : gDo (mem 123)) (hp : pOK (mem 123) pl) (hQ : ∀ (m' : zMem) (K : Nat), fRep m' (bQ (mem 123) (bS pl) K) → (bQ (mem 123) (bS pl) K).1 ≤ K → fFr mem m' → Q 0 m') : zC (d + 4) K_Mo_laysFrom [(2, Int.ofNat 122), (0, pl)] mem Q := by
  refine v_Mo_laysFrom (c_Mo_begins (d := d + 2) (fun m1 h1 h2 f1 => c_Mo_finds (d := d + 2) (g := mem 123) (s := 0) (fi := 0) (b0_rep h1 h2) b0_wf ⟨hp.1, hp.2.1⟩ (fun _ => by show 0 < 570; omega) (Int.le_refl _) (fun q => absurd q (by decide)) (fun q => absurd q b0_in) (fun _ m2 hr2 f2 => ?_)))
  have e3 : m2 123 = mem 123 := (f1.trans f2).pg
  have hr3 : fRep m2 (bS pl) := by
    obtain ⟨a1, a2, a3⟩ := hr2
    refine ⟨a1, fun i hi => ?_, fun p hp hn => a3 p hp (fun q => hn ?_)⟩
    · have : i = 0 := by have : i < 1 := hi; omega
      subst this
      exact a2 0 (by show 0 < 0 + 1; omega)
    · rw [bPush_in] at q
      rw [bS_in]
      exact q.resolve_left b0_in
  have := c_Mo_spreads (d := d) (mem := m2) (Q := fun _ m3 => Q 0 m3) (s := 1) (b0 := bS pl) (by rw [e3]; exact hD) (by rw [e3]; exact bS_wf hp) hr3 (fun m' K h1 h2 h3 => by
    rw [e3] at h1 h2
    exact hQ m' K h1 h2 ((f1.trans f2).trans h3))
  exact this
theorem l_Mo_foundIn {K : Nat} (hw : bWf (mem 123) s b) (hr : fRep mem (bQ (mem 123) b K)) (hD : gDo (mem 123)) (hK : (bQ (mem 123) b K).1 ≤ K) {room : Int}
    (hQ0 : (∀ j, bV (mem 123) b j → pR (mem 123) (bE (mem 123) b j).1 ≠ room) → Q (-4) mem) (hQ1 : ∀ i, bV (mem 123) b i → i < (bQ (mem 123) b K).1 → (∀ j, j < i → pR (mem 123) (bE (mem 123) b j).1 ≠ room) → pR (mem 123) (bE (mem 123) b i).1 = room → Q (bE (mem 123) b i).1 mem) : ∀ (n i : Nat), i + n = 571 → (∀ j, j < i → pR (mem 123) (bE (mem 123) b j).1 ≠ room) → zG (d + 2) M_Mo_foundIn 2 [(2, Int.ofNat 122), (0, room), (0, (i : Int))] [] mem Q := by
  have hwK := bQ_wf hD hw K
  have hsz := hwK.sz
  have fin : ∀ i : Nat, (bQ (mem 123) b K).1 ≤ i → (∀ j, j < i → pR (mem 123) (bE (mem 123) b j).1 ≠ room) → Q (-4) mem := by
    intro i hi h
    refine hQ0 (fun j hj => h j ?_)
    rcases Nat.lt_or_ge j i with q | q
    · exact q
    · have h1 := bV_dn hj (show (bQ (mem 123) b K).1 ≤ j by omega)
      unfold bV at h1
      have := (bQ_le (g := mem 123) (b := b) K hK).1
      omega
  intro n
  induction n with
  | zero =>
    intro i hi h
    refine v_Mo_foundIn_2 ⟨fun c => fin i (by omega) h, fun c => ?_⟩
    rw [hr.1] at c
    omega
  | succ n ih =>
    intro i hi h
    refine v_Mo_foundIn_2 ⟨fun c => fin i (by have := hr.1; omega) h, fun c => ⟨by have := hr.1; omega, ?_⟩⟩
    have hi2 : i < (bQ (mem 123) b K).1 := by have := hr.1; omega
    have hpk := (hwK.2.1 i hi2).1
    rw [Int.toNat_natCast, (hr.2.1 i hi2).1]
    rw [bE_of hi2] at hpk ⊢
    refine c_Mo_roomAt (d := d) ⟨hpk.1, hpk.2.1⟩ ⟨fun c2 x2 e2 => ?_, fun c2 => ⟨by omega, by rw [(hr.2.1 i hi2).1, bE_of hi2]; exact hQ1 i (bV_of hi2) hi2 h c2⟩⟩
    rw [za (by omega)] at e2
    rw [e2]
    refine ih (i + 1) (by omega) (fun j hj => ?_)
    by_cases e : j = i
    · rw [e]; exact c2
    · exact h j (by omega)
theorem c_Mo_foundIn {K : Nat} (hw : bWf (mem 123) s b) (hr : fRep mem (bQ (mem 123) b K)) (hD : gDo (mem 123)) (hK : (bQ (mem 123) b K).1 ≤ K) {room : Int}
    (hQ0 : (∀ j, bV (mem 123) b j → pR (mem 123) (bE (mem 123) b j).1 ≠ room) → Q (-4) mem) (hQ1 : ∀ i, bV (mem 123) b i → i < (bQ (mem 123) b K).1 → (∀ j, j < i → pR (mem 123) (bE (mem 123) b j).1 ≠ room) → pR (mem 123) (bE (mem 123) b i).1 = room → Q (bE (mem 123) b i).1 mem) : zC (d + 2) K_Mo_foundIn [(2, Int.ofNat 122), (0, room)] mem Q :=
  v_Mo_foundIn (l_Mo_foundIn hw hr hD hK hQ0 hQ1 571 0 (by omega) (fun j hj => by omega))
theorem l_Mo_foundRooms {K : Nat} (hw : bWf (mem 123) s b) (hr : fRep mem (bQ (mem 123) b K)) (hD : gDo (mem 123)) (hK : (bQ (mem 123) b K).1 ≤ K) (hQ : ∀ v, bRm (mem 123) b v → Q v mem) : ∀ (n i : Nat) (v : Int), i + n = 571 → i ≤ (bQ (mem 123) b K).1 → zI v → (∀ j : Nat, j < 32 → (zB v j ↔ ∃ x, x < i ∧ pR (mem 123) (bE (mem 123) b x).1 = j)) → zG (d + 2) M_Mo_foundRooms 4 [(2, Int.ofNat 122), (0, v), (0, (i : Int))] [] mem Q := by
  have hwK := bQ_wf hD hw K
  have hsz := hwK.sz
  have fin : ∀ (i : Nat) (v : Int), i = (bQ (mem 123) b K).1 → zI v → (∀ j : Nat, j < 32 → (zB v j ↔ ∃ x, x < i ∧ pR (mem 123) (bE (mem 123) b x).1 = j)) → Q v mem := by
    intro i v hi hv hb
    refine hQ v ⟨hv, fun j hj => ?_⟩
    rw [hb j hj]
    constructor
    · rintro ⟨x, q1, q2⟩
      exact ⟨x, bV_of (k := K) (by omega), q2⟩
    · rintro ⟨x, q1, q2⟩
      refine ⟨x, ?_, q2⟩
      rcases Nat.lt_or_ge x i with z | z
      · exact z
      · have h1 := bV_dn q1 (show (bQ (mem 123) b K).1 ≤ x by omega)
        unfold bV at h1
        have := (bQ_le (g := mem 123) (b := b) K hK).1
        omega
  intro n
  induction n with
  | zero =>
    intro i v hi hi2 hv hb
    refine v_Mo_foundRooms_4 ⟨fun c => fin i v (by omega) hv hb, fun c => ?_⟩
    rw [hr.1] at c
    omega
  | succ n ih =>
    intro i v hi hi2 hv hb
    refine v_Mo_foundRooms_4 ⟨fun c => fin i v (by have := hr.1; omega) hv hb, fun c => ⟨by have := hr.1; omega, ?_⟩⟩
    have hi3 : i < (bQ (mem 123) b K).1 := by have := hr.1; omega
    have hpk := (hwK.2.1 i hi3).1
    rw [Int.toNat_natCast, (hr.2.1 i hi3).1]
    rw [bE_of hi3] at hpk ⊢
    have hrb := pR_b hD hpk
    refine c_Mo_roomAt (d := d) ⟨hpk.1, hpk.2.1⟩ (fun x2 e2 x3 e3 => ?_)
    rw [za (by omega)] at e3
    rw [e3]
    refine ih (i + 1) x2 (by omega) (by omega) (e2 ▸ zor_I _ _) (fun j hj => ?_)
    rw [e2, (zB_put hj (by omega) (by omega)).1, hb j hj]
    constructor
    · rintro (⟨x, q1, q2⟩ | q)
      · exact ⟨x, by omega, q2⟩
      · exact ⟨i, by omega, q.symm⟩
    · rintro ⟨x, q1, q2⟩
      by_cases e : x = i
      · right; rw [e] at q2; exact q2.symm
      · exact Or.inl ⟨x, by omega, q2⟩
theorem c_Mo_foundRooms {K : Nat} (hw : bWf (mem 123) s b) (hr : fRep mem (bQ (mem 123) b K)) (hD : gDo (mem 123)) (hK : (bQ (mem 123) b K).1 ≤ K) (hQ : ∀ v, bRm (mem 123) b v → Q v mem) : zC (d + 2) K_Mo_foundRooms [(2, Int.ofNat 122)] mem Q :=
  v_Mo_foundRooms (l_Mo_foundRooms hw hr hD hK hQ 571 0 0 (by omega) (by omega) zI_0 (fun j _ => ⟨fun q => absurd q (zB_0 j), fun ⟨x, q, _⟩ => by omega⟩))
end
