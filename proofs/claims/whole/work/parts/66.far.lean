section
variable {d w : Nat} {mem m m' m2 : zMem} {Q : Int → zMem → Prop} {R S : zMem → Prop} {g : zPg} {b : zBf} {rm pl r t u : Int} {k s : Nat}
theorem bAns_1 {room : Int} {i : Nat} (h1 : bV g b i) (h2 : ∀ j, j < i → pR g (bE g b j).1 ≠ room) (h3 : pR g (bE g b i).1 = room) : bAns g b room (bE g b i).2.2 := Or.inl ⟨i, h1, h2, h3, rfl⟩
theorem bAns_0 {room : Int} {K : Nat} (hK : (bQ g b K).1 ≤ K) (h : ∀ j, bV g b j → pR g (bE g b j).1 ≠ room) : bAns g b room (-4) := by
  refine Or.inr ⟨(bQ g b K).1, fun q => ?_, fun j hj => h j (bV_of hj), rfl⟩
  unfold bV at q
  have := (bQ_le (g := g) (b := b) K hK).1
  omega
/-- the reference's length of the way from a place -/
theorem c_Mo_least {room : Int} (hD : gDo (mem 123)) (hp : pOK (mem 123) pl) (hQ : ∀ m' v, bAns (mem 123) (bS pl) room v → fFr mem m' → Q v m') :
    zC (d + 4) K_Mo_laysFrom [(2, Int.ofNat 122), (0, pl)] mem (fun r4 m4 => zC (d + 4) K_Mo_foundIn [(2, Int.ofNat 122), (0, room)] m4 (fun r5 m5 => ((r5 ≠ -4 → ((0 ≤ r5 ∧ r5 < 570) ∧ Q (m5 128 r5.toNat) m5)) ∧ (r5 = -4 → Q (-4) m5)))) := by
  refine c_Mo_laysFrom (d := d) hD hp (fun m1 K hr hK hf => ?_)
  have e3 := hf.pg
  have hw : bWf (m1 123) 1 (bS pl) := by rw [e3]; exact bS_wf hp
  refine c_Mo_foundIn (d := d + 2) (s := 1) (b := bS pl) (K := K) hw (by rw [e3]; exact hr) (by rw [e3]; exact hD) (by rw [e3]; exact hK) (fun h => ⟨fun q => absurd rfl q, fun _ => hQ m1 _ (bAns_0 hK (by rw [e3] at h; exact h)) hf⟩) (fun i h1 h2 h3 h4 => ?_)
  rw [e3] at h1 h2 h3 h4 ⊢
  obtain ⟨e1, -, -⟩ := bE_wf hD (bS_wf hp) h1
  refine ⟨fun _ => ⟨⟨e1.1, e1.2.1⟩, ?_⟩, fun q => by have := e1.1; omega⟩
  have := (hr.2.1 i h2).2.1
  rw [bE_of h2] at this
  rw [this]
  exact hQ m1 _ (bAns_1 h1 h3 h4) hf
theorem T_far {a c : Int} (hI : Inv mem) (hR : ∀ m', Inv m' → R m') : zC (d + 5) K_Od_far [(2, Int.ofNat 0), (0, a), (0, c)] mem (fun r1 m1 => zC (d + 5) K_Mo_far [(2, Int.ofNat 122), (0, a), (0, c)] m1 (fun r2 m2 => (r1 = r2 → R m2) ∧ (r1 ≠ r2 → S m2))) := by
  obtain ⟨⟨w1, w2, w3, w4, w5, w6, w7⟩, hP⟩ := id hI.1
  have h0 : mem 2 0 = mem 122 1 := hP.1.1
  have same : ∀ x : Int, (x = x → R mem) ∧ (x ≠ x → S mem) := fun x => ⟨fun _ => hR mem hI, fun q => absurd rfl q⟩
  have bad : ¬ ((0 ≤ a ∧ a < gP (mem 123)) ∧ (0 ≤ c ∧ c < mem 122 1)) → zC (d + 5) K_Mo_far [(2, Int.ofNat 122), (0, a), (0, c)] mem (fun r2 m2 => (-1 = r2 → R m2) ∧ (-1 ≠ r2 → S m2)) := fun h =>
    v_Mo_far (c_Mo_isOne (d := d + 2) w4.1 (fun c1 => ⟨fun q => absurd q (by decide), fun _ => c_Mo_isRoom (d := d + 2) (by omega) (fun c2 => absurd ⟨c1, c2⟩ h) (fun _ => ⟨fun q => absurd rfl q, fun _ => same _⟩)⟩) (fun _ => ⟨fun _ => same _, fun q => absurd rfl q⟩))
  refine v_Od_far (c_Pa_hasOne (d := d + 3) (Or.inl rfl) hP (fun c1 => ⟨fun q => absurd q (by decide), fun _ => ?_⟩) (fun c1 => ⟨fun _ => bad (fun q => c1 q.1), fun q => absurd rfl q⟩))
  refine c_Ho_hasRoom (d := d + 3) (Or.inl rfl) (fun c2 => ⟨fun _ => ⟨by omega, ?_⟩, fun q => absurd q (by decide)⟩) (fun c2 => ⟨fun q => absurd rfl q, fun _ => bad (fun q => c2 (by rw [h0]; exact q.2))⟩)
  rw [h0] at c2
  obtain ⟨z1, z2⟩ := zPa_wk (p := 1) (Or.inl rfl) (i := a.toNat) (by omega)
  have z1 : zrt 8 a.toNat = 9 + a.toNat := z1
  have z2 : zkd (9 + a.toNat) = 9 := z2
  rw [z1]
  have hWk := w5 a.toNat (by omega)
  have hpr := pRep.one w1 w2.2 hWk
  have hWs : Ws mem (9 + a.toNat) (gR (mem 123) a.toNat) (gT (mem 123) a.toNat) (gU (mem 123) a.toNat) := hP.2.2.1 a.toNat (by omega)
  have ref : ∀ v m1, bAns (mem 123) (bS (pOf (mem 123) a.toNat)) c v → (∀ c, c < 70 ∨ 76 < c → m1 c = mem c) → zC (d + 5) K_Mo_far [(2, Int.ofNat 122), (0, a), (0, c)] m1 (fun r2 m2 => (v = r2 → R m2) ∧ (v ≠ r2 → S m2)) := by
    intro v m1 hv hf
    have hs : zKp mem m1 := zKp.cl (fun k hk => hf k (by omega))
    have e3 : m1 123 = mem 123 := hs.pg
    refine v_Mo_far (c_Mo_isOne (d := d + 2) (by rw [e3]; exact w4.1) (fun _ => ⟨fun q => absurd q (by decide), fun _ => ?_⟩) (fun q => absurd (by rw [e3]; exact c1) q))
    refine c_Mo_isRoom (d := d + 2) (by rw [hs.ro]; omega) (fun _ => ⟨fun _ => ?_, fun q => absurd q (by decide)⟩) (fun q => absurd (by rw [hs.ro]; exact c2) q)
    refine c_Mo_placeOfOne (d := d + 2) (rm := mem 122 1) (by rw [e3]; exact w1) w2.2 (by omega) (by rw [e3]; exact hWk) ?_
    rw [e3]
    refine c_Mo_least (d := d) (mem := m1) (Q := fun r2 m2 => (v = r2 → R m2) ∧ (v ≠ r2 → S m2)) (by rw [e3]; exact w1) (by rw [e3]; exact hpr.1) (fun m2 v2 hv2 hf2 => ⟨fun _ => hR m2 (hI.sc (hs.trans hf2.sc)), fun q => absurd ?_ q⟩)
    rw [e3] at hv2
    exact bAns_fn hv hv2
  refine c_Wy_leastTo (d := d + 1) w1 hP.1 z2 (by omega) hWs hpr (fun m1 K h1 h2 h3 => ref _ m1 (Or.inr ⟨K, h1, h2, rfl⟩) h3) (fun m1 i h1 h2 h3 h4 h5 h6 => ref _ m1 (bAns_1 h1 h2 h3) h6)
theorem T_path {a c : Int} (hI : Inv mem) (hR : ∀ m', Inv m' → R m') : zC (d + 5) K_Od_path [(2, Int.ofNat 0), (0, a), (0, c)] mem (fun r1 m1 => zC (d + 5) K_Mo_path [(2, Int.ofNat 122), (0, a), (0, c)] m1 (fun r2 m2 => (r1 = r2 → R m2) ∧ (r1 ≠ r2 → S m2))) := by
  obtain ⟨⟨w1, w2, w3, w4, w5, w6, w7⟩, hP⟩ := id hI.1
  have h0 : mem 2 0 = mem 122 1 := hP.1.1
  have same : ∀ x : Int, (x = x → R mem) ∧ (x ≠ x → S mem) := fun x => ⟨fun _ => hR mem hI, fun q => absurd rfl q⟩
  have bad : ¬ ((0 ≤ a ∧ a < mem 122 1) ∧ (0 ≤ c ∧ c < mem 122 1)) → zC (d + 5) K_Mo_path [(2, Int.ofNat 122), (0, a), (0, c)] mem (fun r2 m2 => (-1 = r2 → R m2) ∧ (-1 ≠ r2 → S m2)) := fun h =>
    v_Mo_path (c_Mo_isRoom (d := d + 2) (by omega) (fun c1 => ⟨fun q => absurd q (by decide), fun _ => c_Mo_isRoom (d := d + 2) (by omega) (fun c2 => absurd ⟨c1, c2⟩ h) (fun _ => ⟨fun q => absurd rfl q, fun _ => same _⟩)⟩) (fun _ => ⟨fun _ => same _, fun q => absurd rfl q⟩))
  refine v_Od_path (c_Ho_hasRoom (d := d + 3) (Or.inl rfl) (fun c1 => ⟨fun q => absurd q (by decide), fun _ => ?_⟩) (fun c1 => ⟨fun _ => bad (fun q => c1 (by rw [h0]; exact q.1)), fun q => absurd rfl q⟩))
  refine c_Ho_hasRoom (d := d + 3) (Or.inl rfl) (fun c2 => ⟨fun _ => ?_, fun q => absurd q (by decide)⟩) (fun c2 => ⟨fun q => absurd rfl q, fun _ => bad (fun q => c2 (by rw [h0]; exact q.2))⟩)
  rw [h0] at c1 c2
  have hpr : pRep (mem 123) (pNew a) a (-4) (-4) := pRep.new (by omega)
  have ref : ∀ v m1, bAns (mem 123) (bS (pNew a)) c v → (∀ c, c < 69 ∨ 76 < c → m1 c = mem c) → zC (d + 5) K_Mo_path [(2, Int.ofNat 122), (0, a), (0, c)] m1 (fun r2 m2 => (v = r2 → R m2) ∧ (v ≠ r2 → S m2)) := by
    intro v m1 hv hf
    have hs : zKp mem m1 := zKp.cl (fun k hk => hf k (by omega))
    have e3 : m1 123 = mem 123 := hs.pg
    refine v_Mo_path (c_Mo_isRoom (d := d + 2) (by rw [hs.ro]; omega) (fun _ => ⟨fun q => absurd q (by decide), fun _ => ?_⟩) (fun q => absurd (by rw [hs.ro]; exact c1) q))
    refine c_Mo_isRoom (d := d + 2) (by rw [hs.ro]; omega) (fun _ => ⟨fun _ => ?_, fun q => absurd q (by decide)⟩) (fun q => absurd (by rw [hs.ro]; exact c2) q)
    refine c_Mo_newIn (d := d + 2) (by omega) ?_
    refine c_Mo_least (d := d) (mem := m1) (Q := fun r2 m2 => (v = r2 → R m2) ∧ (v ≠ r2 → S m2)) (by rw [e3]; exact w1) (by rw [e3]; exact hpr.1) (fun m2 v2 hv2 hf2 => ⟨fun _ => hR m2 (hI.sc (hs.trans hf2.sc)), fun q => absurd ?_ q⟩)
    rw [e3] at hv2
    exact bAns_fn hv hv2
  refine c_Wa_standNew (d := d + 3) (w := 69) (by decide) (fun m0 hW hf0 => ?_)
  refine c_Wy_leastTo (d := d + 1) w1 (hP.1.fr (fun k k1 k2 => hf0 k (by omega))) (w := 69) (by decide) (by omega) hW hpr (fun m1 K h1 h2 h3 => ref _ m1 (Or.inr ⟨K, h1, h2, rfl⟩) (fun c hc => by rw [h3 c (by omega), hf0 c (by omega)])) (fun m1 i h1 h2 h3 h4 h5 h6 => ref _ m1 (bAns_1 h1 h2 h3) (fun c hc => by rw [h6 c (by omega), hf0 c (by omega)]))
theorem T_can {a : Int} (hI : Inv mem) (hR : ∀ m', Inv m' → R m') : zC (d + 5) K_Od_can [(2, Int.ofNat 0), (0, a)] mem (fun r1 m1 => zC (d + 5) K_Mo_can [(2, Int.ofNat 122), (0, a)] m1 (fun r2 m2 => (r1 = r2 → R m2) ∧ (r1 ≠ r2 → S m2))) := by
  obtain ⟨⟨w1, w2, w3, w4, w5, w6, w7⟩, hP⟩ := id hI.1
  have same : ∀ x : Int, (x = x → R mem) ∧ (x ≠ x → S mem) := fun x => ⟨fun _ => hR mem hI, fun q => absurd rfl q⟩
  refine v_Od_can (c_Pa_hasOne (d := d + 3) (Or.inl rfl) hP (fun c1 => ⟨fun q => absurd q (by decide), fun _ => ⟨by omega, ?_⟩⟩) (fun c1 => ⟨fun _ => v_Mo_can (c_Mo_isOne (d := d + 2) w4.1 (fun q => absurd q c1) (fun _ => ⟨fun q => absurd rfl q, fun _ => same _⟩)), fun q => absurd rfl q⟩))
  obtain ⟨z1, z2⟩ := zPa_wk (p := 1) (Or.inl rfl) (i := a.toNat) (by omega)
  have z1 : zrt 8 a.toNat = 9 + a.toNat := z1
  have z2 : zkd (9 + a.toNat) = 9 := z2
  rw [z1]
  have hWk := w5 a.toNat (by omega)
  have hpr := pRep.one w1 w2.2 hWk
  have hWs : Ws mem (9 + a.toNat) (gR (mem 123) a.toNat) (gT (mem 123) a.toNat) (gU (mem 123) a.toNat) := hP.2.2.1 a.toNat (by omega)
  refine c_Wy_roomsOf (d := d + 1) w1 hP.1 z2 (by omega) hWs hpr (fun m1 v hv hf => ?_)
  have hs : zKp mem m1 := zKp.cl (fun k hk => hf k (by omega))
  have e3 : m1 123 = mem 123 := hs.pg
  refine v_Mo_can (c_Mo_isOne (d := d + 2) (by rw [e3]; exact w4.1) (fun _ => ⟨fun _ => ?_, fun q => absurd q (by decide)⟩) (fun q => absurd (by rw [e3]; exact c1) q))
  refine c_Mo_placeOfOne (d := d + 2) (rm := mem 122 1) (by rw [e3]; exact w1) w2.2 (by omega) (by rw [e3]; exact hWk) ?_
  rw [e3]
  refine c_Mo_laysFrom (d := d) (mem := m1) (by rw [e3]; exact w1) (by rw [e3]; exact hpr.1) (fun m2 K hr hK hf2 => ?_)
  have e4 : m2 123 = m1 123 := hf2.pg
  refine c_Mo_foundRooms (d := d + 2) (s := 1) (b := bS (pOf (mem 123) a.toNat)) (K := K) (by rw [e4, e3]; exact bS_wf hpr.1) (by rw [e4]; exact hr) (by rw [e4, e3]; exact w1) (by rw [e4]; exact hK) (fun v2 hv2 => ⟨fun _ => hR m2 (hI.sc (hs.trans hf2.sc)), fun q => absurd ?_ q⟩)
  rw [e4, e3] at hv2
  exact bRm_fn hv hv2
theorem l_Mo_way (hD : gDo (mem 123)) (hp : pOK (mem 123) pl) {K : Nat} (hr : fRep mem (bQ (mem 123) (bS pl) K)) {a : Int} (ha : 0 ≤ a ∧ a < 1000) : ∀ (n i : Nat), i < (bQ (mem 123) (bS pl) K).1 → (bE (mem 123) (bS pl) i).2.2 = n + 1 + a → Q (pL (bE (mem 123) (bS pl) (bCh (mem 123) (bS pl) n i)).1) mem → zG (d + 1) M_Mo_way 59 [(2, Int.ofNat 122), (9, 0), (9, 0), (0, a), (0, (bE (mem 123) (bS pl) i).1)] [] mem Q := by
  have hw := bS_wf hp
  intro n
  induction n with
  | zero =>
    intro i hi hl hQ
    have hvi := bV_of hi
    obtain ⟨e1, e2, e3⟩ := bE_wf hD hw hvi
    obtain ⟨-, q2, q3⟩ := hr.2.1 i hi
    rw [bE_of hi] at q2 q3
    obtain ⟨-, q4⟩ := q3 (by omega)
    have hb : 0 ≤ (bE (mem 123) (bS pl) i).1 ∧ (bE (mem 123) (bS pl) i).1 < 570 := ⟨e1.1, e1.2.1⟩
    refine v_Mo_way_59 ⟨hb, ?_⟩
    rw [q2, q4, za (by omega)]
    exact ⟨fun c => ⟨hb, hQ⟩, fun c => by omega⟩
  | succ n ih =>
    intro i hi hl hQ
    have hvi := bV_of hi
    obtain ⟨e1, e2, e3⟩ := bE_wf hD hw hvi
    have e3 := e3 (by omega)
    obtain ⟨-, q2, q3⟩ := hr.2.1 i hi
    rw [bE_of hi, bE_of (show (bE (mem 123) (bS pl) i).2.1 < (bQ (mem 123) (bS pl) K).1 by omega)] at q3
    rw [bE_of hi] at q2
    obtain ⟨q4, -⟩ := q3 (by omega)
    have hb : 0 ≤ (bE (mem 123) (bS pl) i).1 ∧ (bE (mem 123) (bS pl) i).1 < 570 := ⟨e1.1, e1.2.1⟩
    refine v_Mo_way_59 ⟨hb, ?_⟩
    rw [q2, q4, za (by omega)]
    refine ⟨fun c => by omega, fun c => ⟨hb, fun x1 f1 => ?_⟩⟩
    rw [f1]
    exact ih _ (by omega) (by omega) hQ
theorem T_way {a c e : Int} (hI : Inv mem) (hR : ∀ m', Inv m' → R m') : zC (d + 5) K_Od_way [(2, Int.ofNat 0), (0, a), (0, c), (0, e)] mem (fun r1 m1 => zC (d + 5) K_Mo_way [(2, Int.ofNat 122), (0, a), (0, c), (0, e)] m1 (fun r2 m2 => (r1 = r2 → R m2) ∧ (r1 ≠ r2 → S m2))) := by
  obtain ⟨⟨w1, w2, w3, w4, w5, w6, w7⟩, hP⟩ := id hI.1
  have h0 : mem 2 0 = mem 122 1 := hP.1.1
  have same : ∀ x : Int, (x = x → R mem) ∧ (x ≠ x → S mem) := fun x => ⟨fun _ => hR mem hI, fun q => absurd rfl q⟩
  have bad : ¬ ((0 ≤ a ∧ a < gP (mem 123)) ∧ (0 ≤ c ∧ c < mem 122 1) ∧ 0 ≤ e) → zC (d + 5) K_Mo_way [(2, Int.ofNat 122), (0, a), (0, c), (0, e)] mem (fun r2 m2 => (-1 = r2 → R m2) ∧ (-1 ≠ r2 → S m2)) := fun h =>
    v_Mo_way (c_Mo_isOne (d := d + 2) w4.1 (fun c1 => ⟨fun q => absurd q (by decide), fun _ => c_Mo_isRoom (d := d + 2) (by omega) (fun c2 => ⟨fun q => absurd q (by decide), fun _ => ⟨fun c3 => absurd ⟨c1, c2, c3⟩ h, fun _ => same _⟩⟩) (fun _ => ⟨fun _ => same _, fun q => absurd rfl q⟩)⟩) (fun _ => ⟨fun _ => same _, fun q => absurd rfl q⟩))
  refine v_Od_way (c_Pa_hasOne (d := d + 3) (Or.inl rfl) hP (fun c1 => ⟨fun q => absurd q (by decide), fun _ => ?_⟩) (fun c1 => ⟨fun _ => bad (fun q => c1 q.1), fun q => absurd rfl q⟩))
  refine c_Ho_hasRoom (d := d + 3) (Or.inl rfl) (fun c2 => ⟨fun q => absurd q (by decide), fun _ => ⟨fun ce => ⟨by omega, ?_⟩, fun ce => bad (by omega)⟩⟩) (fun c2 => ⟨fun _ => bad (fun q => c2 (by rw [h0]; exact q.2.1)), fun q => absurd rfl q⟩)
  rw [h0] at c2
  obtain ⟨z1, z2⟩ := zPa_wk (p := 1) (Or.inl rfl) (i := a.toNat) (by omega)
  have z1 : zrt 8 a.toNat = 9 + a.toNat := z1
  have z2 : zkd (9 + a.toNat) = 9 := z2
  rw [z1]
  have hWk := w5 a.toNat (by omega)
  have hpr := pRep.one w1 w2.2 hWk
  have hWs : Ws mem (9 + a.toNat) (gR (mem 123) a.toNat) (gT (mem 123) a.toNat) (gU (mem 123) a.toNat) := hP.2.2.1 a.toNat (by omega)
  have hw := bS_wf hpr.1
  -- the reference, up to the way that it finds
  have ref : ∀ m1 (Q2 : Int → zMem → Prop), (∀ c, c < 70 ∨ 76 < c → m1 c = mem c) → (∀ m2, fFr m1 m2 → (∀ j, bV (mem 123) (bS (pOf (mem 123) a.toNat)) j → pR (mem 123) (bE (mem 123) (bS (pOf (mem 123) a.toNat)) j).1 ≠ c) → Q2 (-4) m2) → (∀ m2 K i, fFr m1 m2 → fRep m2 (bQ (mem 123) (bS (pOf (mem 123) a.toNat)) K) → i < (bQ (mem 123) (bS (pOf (mem 123) a.toNat)) K).1 → (∀ j, j < i → pR (mem 123) (bE (mem 123) (bS (pOf (mem 123) a.toNat)) j).1 ≠ c) → pR (mem 123) (bE (mem 123) (bS (pOf (mem 123) a.toNat)) i).1 = c → (e < (bE (mem 123) (bS (pOf (mem 123) a.toNat)) i).2.2 → zG (d + 5) M_Mo_way 59 [(2, Int.ofNat 122), (9, 0), (9, 0), (0, e), (0, (bE (mem 123) (bS (pOf (mem 123) a.toNat)) i).1)] [] m2 Q2) ∧ ((bE (mem 123) (bS (pOf (mem 123) a.toNat)) i).2.2 ≤ e → Q2 (-4) m2)) → zC (d + 5) K_Mo_way [(2, Int.ofNat 122), (0, a), (0, c), (0, e)] m1 Q2 := by
    intro m1 Q2 hf hq0 hq1
    have hs : zKp mem m1 := zKp.cl (fun k hk => hf k (by omega))
    have e3 : m1 123 = mem 123 := hs.pg
    refine v_Mo_way (c_Mo_isOne (d := d + 2) (by rw [e3]; exact w4.1) (fun _ => ⟨fun q => absurd q (by decide), fun _ => ?_⟩) (fun q => absurd (by rw [e3]; exact c1) q))
    refine c_Mo_isRoom (d := d + 2) (by rw [hs.ro]; omega) (fun _ => ⟨fun q => absurd q (by decide), fun _ => ⟨fun _ => ?_, fun q => by omega⟩⟩) (fun q => absurd (by rw [hs.ro]; exact c2) q)
    refine c_Mo_placeOfOne (d := d + 2) (rm := mem 122 1) (by rw [e3]; exact w1) w2.2 (by omega) (by rw [e3]; exact hWk) ?_
    rw [e3]
    refine c_Mo_laysFrom (d := d) (mem := m1) (by rw [e3]; exact w1) (by rw [e3]; exact hpr.1) (fun m2 K hr hK hf2 => ?_)
    have e4 : m2 123 = mem 123 := by rw [hf2.pg, e3]
    rw [e3] at hr hK
    refine c_Mo_foundIn (d := d + 2) (s := 1) (b := bS (pOf (mem 123) a.toNat)) (K := K) (by rw [e4]; exact hw) (by rw [e4]; exact hr) (by rw [e4]; exact w1) (by rw [e4]; exact hK) (fun h => ⟨fun _ => hq0 m2 hf2 (by rw [e4] at h; exact h), fun q => absurd rfl q⟩) (fun i h1 h2 h3 h4 => ?_)
    rw [e4] at h1 h2 h3 h4 ⊢
    obtain ⟨e1, -, -⟩ := bE_wf w1 hw h1
    have hl := (hr.2.1 i h2).2.1
    rw [bE_of h2] at hl
    refine ⟨fun q => by have := e1.1; omega, fun _ => ⟨⟨e1.1, e1.2.1⟩, ?_⟩⟩
    rw [hl]
    exact hq1 m2 K i hf2 hr h2 h3 h4
  have none : ∀ (v : Int) (m1 : zMem), bAns (mem 123) (bS (pOf (mem 123) a.toNat)) c v → v ≤ e → (∀ c, c < 70 ∨ 76 < c → m1 c = mem c) → zC (d + 5) K_Mo_way [(2, Int.ofNat 122), (0, a), (0, c), (0, e)] m1 (fun r2 m2 => (-4 = r2 → R m2) ∧ (-4 ≠ r2 → S m2)) := by
    intro v m1 hv hve hf
    have hs : zKp mem m1 := zKp.cl (fun k hk => hf k (by omega))
    refine ref m1 _ hf (fun m2 hf2 _ => ⟨fun _ => hR m2 (hI.sc (hs.trans hf2.sc)), fun q => absurd rfl q⟩) (fun m2 K i hf2 hr hi h3 h4 => ⟨fun q => ?_, fun _ => ⟨fun _ => hR m2 (hI.sc (hs.trans hf2.sc)), fun q => absurd rfl q⟩⟩)
    have := bAns_fn hv (bAns_1 (bV_of hi) h3 h4)
    omega
  refine c_Wy_leastTo (d := d + 1) w1 hP.1 z2 (by omega) hWs hpr (fun m1 K h1 h2 h3 => ⟨fun _ => none _ m1 (Or.inr ⟨K, h1, h2, rfl⟩) (by omega) h3, fun q => by omega⟩) (fun m1 i h1 h2 h3 h4 h5 h6 => ⟨fun q => none _ m1 (bAns_1 h1 h2 h3) q h6, fun q => ?_⟩)
  obtain ⟨y1, y2, y3⟩ := bE_wf w1 hw h1
  have hsz := (bQ_wf w1 hw i).sz1
  have hlt : i < (bQ (mem 123) (bS (pOf (mem 123) a.toNat)) i).1 := h1
  refine c_Wy_stepOf (d := d + 3) w1 hpr.1 h1 h5 h4 ce q ?_
  have hs : zKp mem m1 := zKp.cl (fun k hk => h6 k (by omega))
  refine ref m1 _ h6 (fun m2 hf2 hno => absurd h3 (hno i h1)) (fun m2 K i2 hf2 hr hi g3 g4 => ?_)
  have hii : i = i2 := by
    rcases Nat.lt_trichotomy i i2 with z | z | z
    · exact absurd h3 (g3 i z)
    · exact z
    · exact absurd g4 (h2 i2 z)
  subst hii
  have e4 : m2 123 = mem 123 := by rw [hf2.pg, hs.pg]
  refine ⟨fun _ => ?_, fun z => by omega⟩
  have := l_Mo_way (d := d + 4) (mem := m2) (pl := pOf (mem 123) a.toNat) (K := K) (Q := fun r2 m2 => (pL (bE (mem 123) (bS (pOf (mem 123) a.toNat)) (bCh (mem 123) (bS (pOf (mem 123) a.toNat)) ((bE (mem 123) (bS (pOf (mem 123) a.toNat)) i).2.2 - 1 - e).toNat i)).1 = r2 → R m2) ∧ (pL (bE (mem 123) (bS (pOf (mem 123) a.toNat)) (bCh (mem 123) (bS (pOf (mem 123) a.toNat)) ((bE (mem 123) (bS (pOf (mem 123) a.toNat)) i).2.2 - 1 - e).toNat i)).1 ≠ r2 → S m2)) (by rw [e4]; exact w1) (by rw [e4]; exact hpr.1) (by rw [e4]; exact hr) (a := e) (by omega) ((bE (mem 123) (bS (pOf (mem 123) a.toNat)) i).2.2 - 1 - e).toNat i (by rw [e4]; exact hi) (by rw [e4]; omega) ⟨fun _ => hR m2 (hI.sc (hs.trans hf2.sc)), fun z => absurd (by rw [e4]) z⟩
  rw [e4] at this
  exact this
end
