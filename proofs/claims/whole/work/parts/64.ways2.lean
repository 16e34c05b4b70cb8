section
variable {d w : Nat} {mem m m' : zMem} {Q : Int → zMem → Prop} {g : zPg} {b : zBf} {rm pl r t u : Int} {k : Nat}
/-- the side at which one stands -/
theorem pRep.side (hD : gDo g) (h : pRep g pl r t u) (ht : 0 ≤ t) : pl = 15 * (if gA g t.toNat = r then 2 * t else 2 * t + 1) + (pB pl + 1) ∧ pl < 420 := by
  have htb := h.tb
  obtain ⟨⟨h1, h2, h3, h4⟩, h5, h6, h7⟩ := h
  have hlt : pl / 15 < 28 := by
    unfold pL at h6
    split at h6 <;> omega
  have e30 : pl / 30 = t := by
    unfold pL at h6
    rw [if_neg (by omega)] at h6
    exact h6
  unfold pB
  obtain ⟨-, -, dab, -⟩ := hD.2.2 t.toNat (by omega)
  unfold pR at h5
  rw [if_neg (by omega)] at h5
  rcases (show pl / 15 % 2 = 0 ∨ pl / 15 % 2 = 1 by omega) with z | z
  · have : g (4 * (pl / 15 / 2) + pl / 15 % 2).toNat = gA g t.toNat := by unfold gA; congr 1; omega
    rw [this] at h5
    rw [if_pos h5]
    omega
  · have : g (4 * (pl / 15 / 2) + pl / 15 % 2).toNat = gB g t.toNat := by unfold gB; congr 1; omega
    rw [this] at h5
    rw [if_neg (by omega)]
    omega
theorem pRep.newp (h : pRep g pl r t u) (ht : t = -4) : 420 ≤ pl := by
  obtain ⟨⟨h1, h2, h3, h4⟩, h5, h6, h7⟩ := h
  unfold pL at h6
  split at h6 <;> omega
theorem c_Wy_begin (hD : gDo g) (hH : Hs mem 2 g rm) (hw : zkd w = 9) (hw9 : w < 70) (hW : Ws mem w r t u) (hp : pRep g pl r t u) (hQ : ∀ m', cRep m' g (bS pl) → (∀ c, c < 70 ∨ 76 < c → m' c = mem c) → Q 0 m') : zC (d + 2) K_Wy_begin [(2, Int.ofNat 70), (2, Int.ofNat 2), (2, Int.ofNat w)] mem Q := by
  have hN := hD.1
  have htb := hp.tb
  have hpb := pB_b hp.1
  obtain ⟨p1, p2, p3, p4⟩ := id hp
  obtain ⟨w0, w1, w2⟩ := hW
  refine v_Wy_begin hw (c_Jd_fill (d := d) (b := 76) (by decide) fun m2 e2 m3 e3 m4 e4 => ?_)
  have l76 : zln 76 = 28 := by decide
  rw [l76] at e2
  have g4 : ∀ c, c < 70 ∨ 76 < c → m4 c = mem c := fun c hc => by
    funext j
    rw [e4, zup_k (by omega), e3, zup_k (by omega), e2, zup_k (by omega), zfl_k (by omega)]
  have v3 : m2 w 0 = r := by rw [e2, zup_k (by omega), zfl_k (by omega), w0]
  have v4 : m3 w 1 = zn4 t := by rw [e3, zup_k (by omega), e2, zup_k (by omega), zfl_k (by omega), w1]
  rw [v3] at e3
  rw [v4] at e4
  have key : ∀ m7 : zMem, (∃ m5 m6 : zMem, m5 = zup m4 73 0 (pB pl) ∧ m6 = zup m5 74 0 0 ∧ m7 = zup m6 75 0 0) → ((m7 w 1 = -1 → Q 0 m7) ∧ (m7 w 1 ≠ -1 → zC (d + 1) K_Ho_sideAt [(2, Int.ofNat 2), (0, m7 w 1), (0, m7 w 0)] m7 (fun r2 m8 => ((0 ≤ r2 ∧ r2 < 28) ∧ ((0 ≤ r2 ∧ r2 < 28) ∧ ∀ m9 : zMem, m9 = zup m8 76 r2.toNat (zor (m8 76 r2.toNat) (zshl 1 (zadd (m8 73 0) 1))) → Q 0 m9))))) := by
    rintro m7 ⟨m5, m6, e5, e6, e7⟩
    have g7 : ∀ c, c < 70 ∨ 76 < c → m7 c = mem c := fun c hc => by
      funext j
      rw [e7, zup_k (by omega), e6, zup_k (by omega), e5, zup_k (by omega), g4 c hc]
    have a70 : m7 70 6 = 1 := by rw [e7, zup_k (by omega), e6, zup_k (by omega), e5, zup_k (by omega), e4, zup_k (by omega), e3, zup_k (by omega), e2, zup_e]
    have a71 : m7 71 0 = r := by rw [e7, zup_k (by omega), e6, zup_k (by omega), e5, zup_k (by omega), e4, zup_k (by omega), e3, zup_e]
    have a72 : m7 72 0 = zn4 t := by rw [e7, zup_k (by omega), e6, zup_k (by omega), e5, zup_k (by omega), e4, zup_e]
    have a73 : m7 73 0 = pB pl := by rw [e7, zup_k (by omega), e6, zup_k (by omega), e5, zup_e]
    have a74 : m7 74 0 = 0 := by rw [e7, zup_k (by omega), e6, zup_e]
    have a75 : m7 75 0 = 0 := by rw [e7, zup_e]
    have a76 : ∀ s, s < 28 → m7 76 s = 0 := fun s hs => by rw [e7, zup_k (by omega), e6, zup_k (by omega), e5, zup_k (by omega), e4, zup_k (by omega), e3, zup_k (by omega), e2, zup_k (by omega), zfl_e hs]
    have ent : ∀ m' : zMem, m' 70 = m7 70 → m' 71 = m7 71 → m' 72 = m7 72 → m' 73 = m7 73 → m' 74 = m7 74 → m' 75 = m7 75 → (∀ s, s < 28 → ∀ j, j < 15 → (zB (m' 76 s) j ↔ 15 * (s : Int) + j = pl)) → cRep m' g (bS pl) := by
      intro m' h70 h71 h72 h73 h74 h75 h76
      refine ⟨by rw [h70]; exact a70, fun i hi => ?_, fun s hs j hj => by rw [bS_in]; exact h76 s hs j hj⟩
      have : i = 0 := by
        have : i < 1 := hi
        omega
      rw [this, h71, h72, h73, h74, h75, a71, a72, a73, a74, a75]
      exact ⟨p2.symm, by show zn4 t = zn4 (pL pl); rw [p3], rfl, rfl, rfl⟩
    have b0 : m7 w 0 = r := by rw [g7 w (by omega), w0]
    have b1 : m7 w 1 = zn4 t := by rw [g7 w (by omega), w1]
    rw [b0, b1]
    refine ⟨fun c => hQ m7 (ent m7 rfl rfl rfl rfl rfl rfl (fun s hs j hj => ?_)) g7, fun c => ?_⟩
    · have ht4 : t = -4 := by
        unfold zn4 at c
        split at c <;> omega
      have := hp.newp ht4
      rw [a76 s hs]
      exact ⟨fun q => absurd q (zB_0 j), fun q => by omega⟩
    · have ht0 : 0 ≤ t ∧ t < gN g := by
        unfold zn4 at c
        split at c <;> omega
      have ez : zn4 t = t := by unfold zn4; rw [if_neg (by omega)]
      rw [ez]
      obtain ⟨sd1, sd2⟩ := hp.side hD ht0.1
      have hsb : ∀ s : Int, s = (if gA g t.toNat = r then 2 * t else 2 * t + 1) → 0 ≤ s ∧ s < 28 := by
        intro s e
        rw [e]
        split <;> omega
      refine c_Ho_sideAt (d := d) (Or.inl rfl) (hH.fr (fun c c1 c2 => g7 c (by omega))) hN.2 ht0 ?_
      have hsb2 := hsb _ rfl
      generalize (if gA g t.toNat = r then 2 * t else 2 * t + 1) = sd at sd1 hsb2
      refine ⟨hsb2, hsb2, fun m9 e9 => ?_⟩
      rw [a73, a76 _ (by omega), za (by omega)] at e9
      have g9 : ∀ c, c ≠ 76 → m9 c = m7 c := fun c hc => by funext j; rw [e9, zup_k hc]
      refine hQ m9 (ent m9 (g9 _ (by omega)) (g9 _ (by omega)) (g9 _ (by omega)) (g9 _ (by omega)) (g9 _ (by omega)) (g9 _ (by omega)) (fun s hs j hj => ?_)) (fun c hc => by rw [g9 c (by omega), g7 c hc])
      rw [e9, zup_at]
      by_cases hss : s = sd.toNat
      · rw [if_pos ⟨rfl, hss⟩, (zB_put (by omega) (by omega) (by omega)).1]
        constructor
        · rintro (q | q)
          · exact absurd q (zB_0 j)
          · omega
        · intro q
          right
          omega
      · rw [if_neg (fun q => hss q.2), a76 s hs]
        exact ⟨fun q => absurd q (zB_0 j), fun q => absurd (show s = sd.toNat by omega) hss⟩
  have e21 : m4 2 1 = gL g := by rw [g4 2 (by omega)]; exact hH.2.1
  have v5 : m4 w 2 = zn4 u := by rw [g4 w (by omega), w2]
  rw [e21, v5]
  refine ⟨fun c m5 e5 m6 e6 m7 e7 => key m7 ⟨m5, m6, ?_, e6, e7⟩, fun c m5 e5 m6 e6 m7 e7 => key m7 ⟨m5, m6, ?_, e6, e7⟩⟩
  · rw [p4, if_neg c]; exact e5
  · rw [p4, if_pos c]; exact e5
theorem l_Wy_leastTo (hD : gDo g) (hH : Hs mem 2 g rm) (hp : pOK g pl) {room : Int}
    (hQ0 : ∀ (m' : zMem) (K : Nat), ¬ bV g (bS pl) K → (∀ j, j < K → pR g (bE g (bS pl) j).1 ≠ room) → (∀ c, c < 70 ∨ 76 < c → m' c = mem c) → Q (-4) m')
    (hQ1 : ∀ (m' : zMem) (i : Nat), bV g (bS pl) i → (∀ j, j < i → pR g (bE g (bS pl) j).1 ≠ room) → pR g (bE g (bS pl) i).1 = room → m' 70 7 = i → cRep m' g (bQ g (bS pl) i) → (∀ c, c < 70 ∨ 76 < c → m' c = mem c) → Q (bE g (bS pl) i).2.2 m') :
    ∀ (n k : Nat) (m : zMem), k + n = 422 → cRep m g (bQ g (bS pl) k) → (∀ j, j < k → pR g (bE g (bS pl) j).1 ≠ room) → (∀ c, c < 70 ∨ 76 < c → m c = mem c) → zG (d + 3) M_Wy_leastTo 9 [(2, Int.ofNat 70), (2, Int.ofNat 2), (9, 0), (0, room), (0, (k : Int))] [] m Q := by
  have hw := bS_wf (g := g) hp
  intro n
  induction n with
  | zero =>
    intro k m hk hc hj hf
    have hsz := (bQ_wf hD hw k).sz1
    refine v_Wy_leastTo_9 (w := 69) (by decide) ⟨fun c => hQ0 m k (bV_not (by omega)) hj hf, fun c => ?_⟩
    rw [hc.1] at c
    omega
  | succ n ih =>
    intro k m hk hc hj hf
    have hwk := bQ_wf hD hw k
    have hsz := hwk.sz1
    refine v_Wy_leastTo_9 (w := 69) (by decide) ⟨fun c => hQ0 m k (bV_not (by have := hc.1; omega)) hj hf, fun c => ?_⟩
    have hk2 : k < (bQ g (bS pl) k).1 := by have := hc.1; omega
    obtain ⟨q71, q72, q73, q74, q75⟩ := hc.2.1 k hk2
    rw [Int.toNat_natCast, q71]
    have hbe : (bQ g (bS pl) k).2 k = bE g (bS pl) k := rfl
    rw [hbe]
    refine ⟨fun _ => by omega, fun _ => ⟨by omega, fun c2 => ?_, fun c2 m2 f2 => ⟨by omega, ?_⟩⟩⟩
    · refine c_Wy_spread (d := d) hD (hH.fr (fun c c1 c2 => hf c (by omega))) hwk hk2 hc (fun m1 hc1 hf1 x2 e2 => ?_)
      rw [za (by omega)] at e2
      rw [e2]
      refine ih (k + 1) m1 (by omega) ?_ (fun j hj2 => ?_) (fun c hc => by rw [hf1 c hc, hf c hc])
      · show cRep m1 g (if _ then _ else _)
        rw [if_pos hk2]
        exact hc1
      · by_cases e : j = k
        · rw [e]; exact c2
        · exact hj j (by omega)
    · have g2 : ∀ c, c ≠ 70 → m2 c = m c := fun c hc => by funext j; rw [f2, zup_k hc]
      rw [g2 75 (by omega), q75, hbe]
      refine hQ1 m2 k hk2 hj c2 (by rw [f2, zup_e]) ?_ (fun c hc => by rw [g2 c (by omega), hf c hc])
      unfold cRep at hc ⊢
      rw [g2 71 (by omega), g2 72 (by omega), g2 73 (by omega), g2 74 (by omega), g2 75 (by omega), g2 76 (by omega), show m2 70 6 = m 70 6 by rw [f2, zup_j (by omega)]]
      exact hc
theorem c_Wy_leastTo (hD : gDo g) (hH : Hs mem 2 g rm) (hw : zkd w = 9) (hw9 : w < 70) (hW : Ws mem w r t u) (hp : pRep g pl r t u) {room : Int}
    (hQ0 : ∀ (m' : zMem) (K : Nat), ¬ bV g (bS pl) K → (∀ j, j < K → pR g (bE g (bS pl) j).1 ≠ room) → (∀ c, c < 70 ∨ 76 < c → m' c = mem c) → Q (-4) m')
    (hQ1 : ∀ (m' : zMem) (i : Nat), bV g (bS pl) i → (∀ j, j < i → pR g (bE g (bS pl) j).1 ≠ room) → pR g (bE g (bS pl) i).1 = room → m' 70 7 = i → cRep m' g (bQ g (bS pl) i) → (∀ c, c < 70 ∨ 76 < c → m' c = mem c) → Q (bE g (bS pl) i).2.2 m') : zC (d + 3) K_Wy_leastTo [(2, Int.ofNat 70), (2, Int.ofNat 2), (2, Int.ofNat w), (0, room)] mem Q :=
  v_Wy_leastTo hw (c_Wy_begin (d := d) hD hH hw hw9 hW hp fun m1 hc hf => l_Wy_leastTo (d := d) (mem := m1) hD (hH.fr (fun c c1 c2 => hf c (by omega))) hp.1 (fun m' K h1 h2 h3 => hQ0 m' K h1 h2 (fun c hc => by rw [h3 c hc, hf c hc])) (fun m' i h1 h2 h3 h4 h5 h6 => hQ1 m' i h1 h2 h3 h4 h5 (fun c hc => by rw [h6 c hc, hf c hc])) 422 0 m1 (by omega) hc (fun j hj => by omega) (fun _ _ => rfl))
theorem l_Wy_roomsOf (hD : gDo g) (hH : Hs mem 2 g rm) (hp : pOK g pl) (hQ : ∀ m' v, bRm g (bS pl) v → (∀ c, c < 70 ∨ 76 < c → m' c = mem c) → Q v m') :
    ∀ (n k : Nat) (m : zMem) (v : Int), k + n = 422 → cRep m g (bQ g (bS pl) k) → zI v → (∀ j : Nat, j < 32 → (zB v j ↔ ∃ i, i < k ∧ bV g (bS pl) i ∧ pR g (bE g (bS pl) i).1 = j)) → (∀ c, c < 70 ∨ 76 < c → m c = mem c) → zG (d + 3) M_Wy_roomsOf 11 [(2, Int.ofNat 70), (2, Int.ofNat 2), (9, 0), (0, v), (0, (k : Int))] [] m Q := by
  have hw := bS_wf (g := g) hp
  have fin : ∀ (k : Nat) (v : Int), (bQ g (bS pl) k).1 ≤ k → zI v → (∀ j : Nat, j < 32 → (zB v j ↔ ∃ i, i < k ∧ bV g (bS pl) i ∧ pR g (bE g (bS pl) i).1 = j)) → bRm g (bS pl) v := by
    intro k v hk hv hb
    refine ⟨hv, fun j hj => ?_⟩
    rw [hb j hj]
    constructor
    · rintro ⟨i, -, q⟩; exact ⟨i, q⟩
    · rintro ⟨i, q1, q2⟩
      refine ⟨i, ?_, q1, q2⟩
      rcases Nat.lt_or_ge i k with z | z
      · exact z
      · exact absurd (bV_dn q1 z) (bV_not hk)
  intro n
  induction n with
  | zero =>
    intro k m v hk hc hv hb hf
    have hsz := (bQ_wf hD hw k).sz1
    refine v_Wy_roomsOf_11 (w := 69) (by decide) ⟨fun c => hQ m v (fin k v (by omega) hv hb) hf, fun c => ?_⟩
    rw [hc.1] at c
    omega
  | succ n ih =>
    intro k m v hk hc hv hb hf
    have hwk := bQ_wf hD hw k
    have hsz := hwk.sz1
    refine v_Wy_roomsOf_11 (w := 69) (by decide) ⟨fun c => hQ m v (fin k v (by have := hc.1; omega) hv hb) hf, fun c => ?_⟩
    have hk2 : k < (bQ g (bS pl) k).1 := by have := hc.1; omega
    obtain ⟨q71, q72, q73, q74, q75⟩ := hc.2.1 k hk2
    have hbe : (bQ g (bS pl) k).2 k = bE g (bS pl) k := rfl
    rw [Int.toNat_natCast, q71, hbe]
    have hr := pR_b hD (hwk.2.1 k hk2).1
    rw [hbe] at hr
    refine ⟨fun _ => by omega, fun _ => ⟨by omega, fun x1 e1 => c_Wy_spread (d := d) hD (hH.fr (fun c c1 c2 => hf c (by omega))) hwk hk2 hc (fun m1 hc1 hf1 x2 e2 => ?_)⟩⟩
    rw [za (by omega)] at e2
    rw [e2]
    refine ih (k + 1) m1 x1 (by omega) ?_ (e1 ▸ zor_I _ _) (fun j hj => ?_) (fun c hc => by rw [hf1 c hc, hf c hc])
    · show cRep m1 g (if _ then _ else _)
      rw [if_pos hk2]
      exact hc1
    · rw [e1, (zB_put hj (by omega) (by omega)).1, hb j hj]
      constructor
      · rintro (⟨i, q1, q2⟩ | q)
        · exact ⟨i, by omega, q2⟩
        · exact ⟨k, by omega, hk2, q.symm⟩
      · rintro ⟨i, q1, q2, q3⟩
        by_cases e : i = k
        · right; rw [e] at q3; exact q3.symm
        · exact Or.inl ⟨i, by omega, q2, q3⟩
theorem c_Wy_roomsOf (hD : gDo g) (hH : Hs mem 2 g rm) (hw : zkd w = 9) (hw9 : w < 70) (hW : Ws mem w r t u) (hp : pRep g pl r t u) (hQ : ∀ m' v, bRm g (bS pl) v → (∀ c, c < 70 ∨ 76 < c → m' c = mem c) → Q v m') : zC (d + 3) K_Wy_roomsOf [(2, Int.ofNat 70), (2, Int.ofNat 2), (2, Int.ofNat w)] mem Q :=
  v_Wy_roomsOf hw (c_Wy_begin (d := d) hD hH hw hw9 hW hp fun m1 hc hf => l_Wy_roomsOf (d := d) (mem := m1) hD (hH.fr (fun c c1 c2 => hf c (by omega))) hp.1 (fun m' v h1 h2 => hQ m' v h1 (fun c hc => by rw [h2 c hc, hf c hc])) 422 0 m1 0 (by omega) hc zI_0 (fun j _ => ⟨fun q => absurd q (zB_0 j), fun ⟨i, q, _⟩ => by omega⟩) (fun _ _ => rfl))
/-- back along the way -/
noncomputable def bCh (g : zPg) (b : zBf) : Nat → Nat → Nat
  | 0, i => i
  | n + 1, i => bCh g b n (bE g b i).2.1
theorem bE_wf (hD : gDo g) (hw : bWf g 1 b) {i : Nat} (hv : bV g b i) : pOK g (bE g b i).1 ∧ (0 ≤ (bE g b i).2.2 ∧ (bE g b i).2.2 ≤ i) ∧ (1 ≤ i → (bE g b i).1 < 420 ∧ (bE g b i).2.1 < i ∧ (bE g b i).2.2 = (bE g b (bE g b i).2.1).2.2 + 1) := by
  have hwi := bQ_wf hD hw i
  unfold bV at hv
  have h1 := hwi.2.1 i hv
  have e : (bQ g b i).2 i = bE g b i := rfl
  rw [e] at h1
  refine ⟨h1.1, h1.2, fun hi => ?_⟩
  have h2 := hwi.2.2.2.1 i hi hv
  rw [e, bE_of (by omega)] at h2
  exact h2
theorem l_Wy_stepOf (hD : gDo g) (hp : pOK g pl) {i0 : Nat} (hv0 : bV g (bS pl) i0) (hc : cRep mem g (bQ g (bS pl) i0)) {a : Int} (ha : 0 ≤ a) : ∀ (n i : Nat), i ≤ i0 → (bE g (bS pl) i).2.2 = n + 1 + a → Q (pL (bE g (bS pl) (bCh g (bS pl) n i)).1) mem → zG (d + 1) M_Wy_stepOf 19 [(2, Int.ofNat 70), (9, 0), (0, (i : Int)), (0, (n : Int))] [] mem Q := by
  have hw := bS_wf (g := g) hp
  have hsz := (bQ_wf hD hw i0).sz1
  unfold bV at hv0
  intro n
  induction n with
  | zero =>
    intro i hi hl hQ
    have hvi := bV_dn (g := g) (b := bS pl) (i := i0) hv0 hi
    obtain ⟨e1, e2, e3⟩ := bE_wf hD hw hvi
    have e3 := e3 (by omega)
    obtain ⟨-, q72, -⟩ := hc.2.1 i (by omega)
    rw [bE_of (by omega)] at q72
    refine v_Wy_stepOf_19 ⟨fun c => ⟨by omega, ?_⟩, fun c => by omega⟩
    rw [Int.toNat_natCast, q72]
    have : zn4 (pL (bE g (bS pl) i).1) = pL (bE g (bS pl) i).1 := by
      unfold zn4
      rw [if_neg]
      have := e1.1
      unfold pL
      rw [if_neg (by omega)]
      omega
    rw [this]
    exact hQ
  | succ n ih =>
    intro i hi hl hQ
    have hvi := bV_dn (g := g) (b := bS pl) (i := i0) hv0 hi
    obtain ⟨e1, e2, e3⟩ := bE_wf hD hw hvi
    have e3 := e3 (by omega)
    obtain ⟨-, -, -, q74, -⟩ := hc.2.1 i (by omega)
    rw [bE_of (by omega)] at q74
    refine v_Wy_stepOf_19 ⟨fun c => by omega, fun c => ⟨by omega, fun x1 f1 x2 f2 => ?_⟩⟩
    rw [Int.toNat_natCast, q74] at f1
    rw [za (by omega)] at f2
    rw [f1, f2, show ((n + 1 : Nat) : Int) + -1 = (n : Int) by omega]
    exact ih (bE g (bS pl) i).2.1 (by omega) (by omega) hQ
theorem c_Wy_stepOf (hD : gDo g) (hp : pOK g pl) {i0 : Nat} (hv0 : bV g (bS pl) i0) (hc : cRep mem g (bQ g (bS pl) i0)) (h7 : mem 70 7 = i0) {a : Int} (ha : 0 ≤ a) (hl : a < (bE g (bS pl) i0).2.2) (hQ : Q (pL (bE g (bS pl) (bCh g (bS pl) ((bE g (bS pl) i0).2.2 - 1 - a).toNat i0)).1) mem) : zC (d + 1) K_Wy_stepOf [(2, Int.ofNat 70), (0, a)] mem Q := by
  have hw := bS_wf (g := g) hp
  have hsz := (bQ_wf hD hw i0).sz1
  obtain ⟨e1, e2, e3⟩ := bE_wf hD hw hv0
  unfold bV at hv0
  obtain ⟨-, -, -, -, q75⟩ := hc.2.1 i0 hv0
  rw [bE_of hv0] at q75
  refine v_Wy_stepOf fun x1 f1 => ?_
  rw [h7] at f1 ⊢
  rw [Int.toNat_natCast, q75]
  refine ⟨by omega, fun x2 f2 => ?_⟩
  rw [zs (x := (bE g (bS pl) i0).2.2) (by omega), zs (by omega)] at f2
  have e : x2 = ((((bE g (bS pl) i0).2.2 - 1 - a).toNat : Nat) : Int) := by omega
  rw [f1, e]
  exact l_Wy_stepOf (d := d) hD hp hv0 hc ha _ i0 (Nat.le_refl _) (by omega) hQ
end
