section
variable {d w : Nat} {mem m m' m2 : zMem} {Q : Int → zMem → Prop} {R S : zMem → Prop} {g g' : zPg} {rm pl r t u p : Int} {k s tn : Nat} {some : Int} {pl0 home : Int} {s0 wh n : Nat}
theorem c_Mo_isRound (hD : gDo (mem 123)) (hc : zpc 14 some ≤ 5) (hp0 : pOK (mem 123) pl0) (hs0 : s0 < 32) (hwh : wh < 32) (hr : fRd mem (mem 123) some pl0 s0 n) (hQ1 : lvH (rS0 pl0 s0) (rSt (mem 123) some) (rTg (mem 123) home wh) n → Q 1 mem) (hQ0 : ¬ lvH (rS0 pl0 s0) (rSt (mem 123) some) (rTg (mem 123) home wh) n → Q 0 mem) : zC (d + 2) K_Mo_isRound [(2, Int.ofNat 122), (0, home), (0, (wh : Int))] mem Q := by
  refine zC.rg fun _ hrg => ?_
  have rc := rLF_rc (pl0 := pl0) (some := some) hD hc hp0 hs0 n
  have loop : ∀ (N i : Nat) (v : Int), i + N = 570 → (v = 0 ∨ v = 1) → (v = 1 ↔ ∃ p : Nat, p < i ∧ rLF (mem 123) some pl0 s0 n ((p : Int), wh) ∧ pR (mem 123) p = home) → zG (d + 2) M_Mo_isRound 5 [(2, Int.ofNat 122), (0, home), (0, (wh : Int)), (0, v), (0, (i : Int))] [] mem Q := by
    intro N
    induction N with
    | zero =>
      intro i v hi hv hvi
      refine v_Mo_isRound_5 ⟨fun c => ⟨hv, ?_⟩, fun c => by omega⟩
      have key : v = 1 ↔ lvH (rS0 pl0 s0) (rSt (mem 123) some) (rTg (mem 123) home wh) n := by
        rw [hvi]
        constructor
        · rintro ⟨p, -, a1, a2⟩
          exact ⟨((p : Int), wh), a1, a2, rfl⟩
        · rintro ⟨⟨p, s⟩, a1, a2, a3⟩
          have a3 : s = wh := a3
          have a2 : pR (mem 123) p = home := a2
          have h0 : 0 ≤ p ∧ p < 570 := by
            have := (rc _ a1).1.1
            exact ⟨this.1, this.2.1⟩
          refine ⟨p.toNat, by omega, ?_, ?_⟩
          · rw [Int.toNat_of_nonneg h0.1, ← a3]; exact a1
          · rw [Int.toNat_of_nonneg h0.1]; exact a2
      rcases hv with e | e
      · rw [e]
        exact hQ0 (fun q => by have := key.mpr q; omega)
      · rw [e]
        exact hQ1 (key.mp e)
    | succ N ih =>
      intro i v hi hv hvi
      have nx : ∀ v2 : Int, (v2 = 0 ∨ v2 = 1) → (v2 = 1 ↔ v = 1 ∨ (rLF (mem 123) some pl0 s0 n ((i : Int), wh) ∧ pR (mem 123) i = home)) → ∀ x1 : Int, x1 = zadd (i : Int) 1 → zG (d + 2) M_Mo_isRound 5 [(2, Int.ofNat 122), (0, home), (0, (wh : Int)), (0, v2), (0, x1)] [] mem Q := by
        intro v2 hv2 hvi2 x1 e1
        rw [za (by omega)] at e1
        rw [e1]
        refine ih (i + 1) v2 (by omega) hv2 ?_
        rw [hvi2, hvi]
        constructor
        · rintro (⟨p, a1, a2⟩ | z)
          · exact ⟨p, by omega, a2⟩
          · exact ⟨i, by omega, z⟩
        · rintro ⟨p, a1, a2⟩
          by_cases e : p = i
          · right; rw [e] at a2; exact a2
          · exact Or.inl ⟨p, by omega, a2⟩
      have hzi : zI (mem 133 i) := zrg_i hrg (by decide) i
      refine v_Mo_isRound_5 ⟨fun c => by omega, fun c => ⟨fun z => nx 1 (Or.inr rfl) ⟨fun _ => Or.inl (by omega), fun _ => rfl⟩, fun z => ⟨by omega, ?_⟩⟩⟩
      rw [Int.toNat_natCast]
      have hb := (hr i (by omega) wh hwh).2
      refine ⟨fun c2 => ?_, fun c2 => ?_⟩
      · rw [Ne, zB_test1 hzi (by omega) (by omega), Int.toNat_natCast, hb] at c2
        exact nx 0 (Or.inl rfl) ⟨fun q => absurd q (by decide), fun q => q.elim (fun q => by omega) (fun q => absurd q.1 c2)⟩
      · rw [zB_test1 hzi (by omega) (by omega), Int.toNat_natCast, hb] at c2
        refine c_Mo_roomAt (d := d) ⟨by omega, by omega⟩ ⟨fun c3 => nx 0 (Or.inl rfl) ⟨fun q => absurd q (by decide), fun q => q.elim (fun q => by omega) (fun q => absurd q.2 c3)⟩, fun c3 => nx 1 (Or.inr rfl) ⟨fun _ => Or.inr ⟨c2, c3⟩, fun _ => rfl⟩⟩
  exact v_Mo_isRound (loop 570 0 0 (by omega) (Or.inl rfl) ⟨fun q => absurd q (by decide), fun ⟨p, q, _⟩ => absurd q (Nat.not_lt_zero _)⟩)
theorem l_Mo_round (hD : gDo (mem 123)) (hz : zI some) (hc : zpc 14 some ≤ 5) (hp0 : pOK (mem 123) pl0) (hs0 : s0 < 32) (hwh : wh < 32)
    (hQ : ∀ (m' : zMem) (v : Int), lvA (rS0 pl0 s0) (rSt (mem 123) some) (rTg (mem 123) home wh) v → fFq mem m' → Q v m') : ∀ (N n : Nat) (m : zMem) (v : Int), n + N = 13473 → (v = 0 ∨ v = 1) → (v = 1 ↔ ∃ x, rLF (mem 123) some pl0 s0 n x) → fRd m (mem 123) some pl0 s0 n → (∀ j, j < n → ¬ lvH (rS0 pl0 s0) (rSt (mem 123) some) (rTg (mem 123) home wh) j) → fFq mem m → zG (d + 4) M_Mo_round 126 [(2, Int.ofNat 122), (9, 0), (0, some), (9, 0), (0, home), (0, (wh : Int)), (0, (n : Int)), (0, v)] [] m Q := by
  intro N
  induction N with
  | zero =>
    intro n m v hn hv hvi hr hno hf
    refine v_Mo_round_126 ⟨fun c => hQ m (-4) (Or.inr ⟨rfl, n, fun x hx => ?_, hno⟩) hf, fun c => ?_⟩
    · have := hvi.mpr ⟨x, hx⟩
      omega
    · obtain ⟨x, hx⟩ := hvi.mp (by omega)
      have := rLF_len hD hc hp0 hs0 hx
      omega
  | succ N ih =>
    intro n m v hn hv hvi hr hno hf
    have e3 : m 123 = mem 123 := hf 123 (by omega)
    refine v_Mo_round_126 ⟨fun c => hQ m (-4) (Or.inr ⟨rfl, n, fun x hx => ?_, hno⟩) hf, fun c => ?_⟩
    · have := hvi.mpr ⟨x, hx⟩
      omega
    · refine c_Mo_isRound (d := d + 1) (some := some) (pl0 := pl0) (s0 := s0) (n := n) (by rw [e3]; exact hD) hc (by rw [e3]; exact hp0) hs0 hwh (by rw [e3]; exact hr) (fun hh => ⟨fun q => absurd q (by decide), fun _ => ?_⟩) (fun hh => ⟨fun _ => ?_, fun q => absurd rfl q⟩)
      · rw [e3] at hh
        exact hQ m n (Or.inl ⟨n, rfl, hh, hno⟩) hf
      · rw [e3] at hh
        refine c_Mo_goesRound (d := d) (mem := m) (pl0 := pl0) (s0 := s0) (n := n) (by rw [e3]; exact hD) hz hc (by rw [e3]; exact hp0) hs0 (by rw [e3]; exact hr) (fun m2 v2 hv2 hvi2 hr2 hf2 x3 f3 => ?_)
        rw [za (by omega)] at f3
        rw [f3]
        rw [e3] at hvi2 hr2
        refine ih (n + 1) m2 v2 (by omega) hv2 hvi2 hr2 (fun j hj => ?_) (fun c hc => by rw [hf2 c hc, hf c hc])
        by_cases e : j = n
        · rw [e]; exact hh
        · exact hno j (by omega)
theorem two_pow_10 : ∀ n, n < 11 → zshl 1 (Int.ofNat n) = ((2 ^ n : Nat) : Int) := by decide +kernel
theorem T_round {a c : Int} (hI : Inv mem) (hR : ∀ m', Inv m' → R m') : zC (d + 6) K_Od_round [(2, Int.ofNat 0), (0, a), (0, c)] mem (fun r1 m1 => zC (d + 6) K_Mo_round [(2, Int.ofNat 122), (0, a), (0, c)] m1 (fun r2 m2 => (r1 = r2 → R m2) ∧ (r1 ≠ r2 → S m2))) := by
  refine zC.rg fun hav _ => ?_
  have hcz : zI c := zoh (zot (zot hav))
  obtain ⟨⟨w1, w2, w3, w4, w5, w6, w7⟩, hP⟩ := id hI.1
  have h0 : mem 2 0 = mem 122 1 := hP.1.1
  have same : ∀ x : Int, (x = x → R mem) ∧ (x ≠ x → S mem) := fun x => ⟨fun _ => hR mem hI, fun q => absurd rfl q⟩
  have hpw : zshl 1 (mem 122 1) = ((2 ^ (mem 122 1).toNat : Nat) : Int) := by
    have := two_pow_10 (mem 122 1).toNat (by omega)
    rw [show Int.ofNat (mem 122 1).toNat = mem 122 1 by simp; omega] at this
    exact this
  have hpb : 2 ^ (mem 122 1).toNat ≤ 1024 := by
    have := Nat.pow_le_pow_right (n := 2) (by decide) (show (mem 122 1).toNat ≤ 10 by omega)
    exact this
  generalize hPw : (2 ^ (mem 122 1).toNat : Nat) = PW at hpw hpb
  have bad : ¬ ((0 ≤ a ∧ a < gP (mem 123)) ∧ (0 ≤ c ∧ c < PW) ∧ zpc 14 c ≤ 5) → zC (d + 6) K_Mo_round [(2, Int.ofNat 122), (0, a), (0, c)] mem (fun r2 m2 => (-1 = r2 → R m2) ∧ (-1 ≠ r2 → S m2)) := by
    intro h
    refine v_Mo_round (c_Mo_isOne (d := d + 3) w4.1 (fun c1 => ⟨fun q => absurd q (by decide), fun _ => ?_⟩) (fun _ => ⟨fun _ => same _, fun q => absurd rfl q⟩))
    rw [hpw, zs (by omega)]
    refine c_Mo_in (d := d + 4) (fun c2 => ⟨fun q => absurd q (by decide), fun _ => ?_⟩) (fun _ => ⟨fun _ => same _, fun q => absurd rfl q⟩)
    exact c_Mo_bitsOf (d := d + 4) ⟨fun c3 => absurd ⟨c1, by omega, c3⟩ h, fun _ => same _⟩
  refine v_Od_round (c_Pa_hasOne (d := d + 4) (Or.inl rfl) hP (fun c1 => ⟨fun q => absurd q (by decide), fun _ => ⟨fun c2 => bad (by omega), fun c2 => ?_⟩⟩) (fun c1 => ⟨fun _ => bad (fun q => c1 q.1), fun q => absurd rfl q⟩))
  rw [h0, hpw]
  refine ⟨fun c3 => bad (by omega), fun c3 => c_Jd_bitCount (d := d + 4) (by omega) ⟨fun c4 => ⟨by omega, ?_⟩, fun c4 => bad (by omega)⟩⟩
  obtain ⟨z1, z2⟩ := zPa_wk (p := 1) (Or.inl rfl) (i := a.toNat) (by omega)
  have z1 : zrt 8 a.toNat = 9 + a.toNat := z1
  have z2 : zkd (9 + a.toNat) = 9 := z2
  rw [z1]
  have hWk := w5 a.toNat (by omega)
  have hpr := pRep.one w1 w2.2 hWk
  have hWs : Ws mem (9 + a.toNat) (gR (mem 123) a.toNat) (gT (mem 123) a.toNat) (gU (mem 123) a.toNat) := hP.2.2.1 a.toNat (by omega)
  have hrb : 0 ≤ gR (mem 123) a.toNat ∧ gR (mem 123) a.toNat < 10 := by have := hWk.1; omega
  have hhi : ∀ j, 10 ≤ j → ¬ zB c j := fun j hj => zB_of_lt c2 (n := 10) (by omega) (by show c < 1024; omega) hj
  obtain ⟨wl1, wl2⟩ := whole_lt c4
  have hs0 := rAb_lt c4 hrb
  refine c_Ro_least (d := d) w1 hP.1 hcz c4 hhi z2 (by omega) hWs hpr hrb (fun m1 v hv hf => ?_)
  have hs : zKp mem m1 := zKp.cl (fun k hk => hf k (by omega))
  have e3 : m1 123 = mem 123 := hs.pg
  refine v_Mo_round (c_Mo_isOne (d := d + 3) (by rw [e3]; exact w4.1) (fun _ => ⟨fun q => absurd q (by decide), fun _ => ?_⟩) (fun q => absurd (by rw [e3]; exact c1) q))
  rw [hs.ro, hpw, zs (by omega)]
  refine c_Mo_in (d := d + 4) (fun _ => ⟨fun q => absurd q (by decide), fun _ => c_Mo_bitsOf (d := d + 4) ⟨fun _ => ?_, fun q => by omega⟩⟩) (fun q => absurd (by omega) q)
  -- the rows are cleared
  have clr : ∀ (N i : Nat) (m : zMem), i + N = 570 → (∀ p, p < i → m 132 p = 0 ∧ m 133 p = 0) → fFq m1 m → zG (d + 6) M_Mo_round 38 [(2, Int.ofNat 122), (0, a), (0, c), (0, (i : Int)), (9, 0), (9, 0), (9, 0), (9, 0)] [] m (fun r2 m2 => (v = r2 → R m2) ∧ (v ≠ r2 → S m2)) := by
    intro N
    induction N with
    | zero =>
      intro i m hi h1 hfm
      have e4 : m 123 = mem 123 := by rw [hfm 123 (by omega), e3]
      refine v_Mo_round_38 ⟨fun _ => ?_, fun q => by omega⟩
      refine c_Mo_placeOfOne (d := d + 3) (rm := mem 122 1) (by rw [e4]; exact w1) w2.2 (by omega) (by rw [e4]; exact hWk) ?_
      rw [zm (x := 3) (by omega), za (by omega), show (57 + 3 * a).toNat = 57 + 3 * a.toNat by omega, e4]
      refine ⟨by omega, fun x2 f2 => c_Mo_bitsOf (d := d + 4) (fun x4 f4 => ?_)⟩
      have f2 : x2 = gR (mem 123) a.toNat := f2
      have hx4 : x4 = ((2 ^ (zpc 14 c).toNat - 1 : Nat) : Int) := by
        rw [f4, wl2]
        have hpc := zpc_ge c 14
        have key : ∀ n, n < 6 → zsub (zshl 1 (Int.ofNat n)) 1 = ((2 ^ n : Nat) : Int) - 1 := by decide +kernel
        have := key (zpc 14 c).toNat (by omega)
        rw [show Int.ofNat (zpc 14 c).toNat = zpc 14 c by simp; omega] at this
        exact this
      rw [f2, hx4]
      have hpl := hpr.1
      have hplb : 0 ≤ pOf (mem 123) a.toNat ∧ pOf (mem 123) a.toNat < 570 := ⟨hpl.1, hpl.2.1⟩
      refine c_Mo_askedBit (d := d + 4) hcz hrb ⟨hplb, fun m4 g4 => ⟨hplb, hplb, fun m5 g5 => ?_⟩⟩
      have hv5 : m4 133 (pOf (mem 123) a.toNat).toNat = zshl 1 (rAb c (gR (mem 123) a.toNat) : Int) := by rw [g4, zup_e]
      rw [hv5] at g5
      have g5f : fFq m1 m5 := fun k hk => by rw [← hfm k hk]; funext j; rw [g5, zup_k (by omega), g4, zup_k (by omega)]
      have e5 : m5 123 = mem 123 := by rw [g5f 123 (by omega), e3]
      have hfr : fRd m5 (mem 123) c (pOf (mem 123) a.toNat) (rAb c (gR (mem 123) a.toNat)) 0 := by
        intro p hp s hs
        have val : ∀ cc, cc = 132 ∨ cc = 133 → m5 cc p = if p = (pOf (mem 123) a.toNat).toNat then zshl 1 (rAb c (gR (mem 123) a.toNat) : Int) else 0 := by
          intro cc hcc
          rcases hcc with rfl | rfl
          · rw [g5, zup_at]
            by_cases e : p = (pOf (mem 123) a.toNat).toNat
            · rw [if_pos ⟨rfl, e⟩, if_pos e]
            · rw [if_neg (fun q => e q.2), if_neg e, g4, zup_k (by omega)]
              exact (h1 p (by omega)).1
          · rw [g5, zup_k (by omega), g4, zup_at]
            by_cases e : p = (pOf (mem 123) a.toNat).toNat
            · rw [if_pos ⟨rfl, e⟩, if_pos e]
            · rw [if_neg (fun q => e q.2), if_neg e]
              exact (h1 p (by omega)).2
        have key : ∀ X : Int, X = (if p = (pOf (mem 123) a.toNat).toNat then zshl 1 (rAb c (gR (mem 123) a.toNat) : Int) else 0) → (zB X s ↔ ((p : Int), s) = (pOf (mem 123) a.toNat, rAb c (gR (mem 123) a.toNat))) := by
          intro X hX
          rw [hX]
          by_cases e : p = (pOf (mem 123) a.toNat).toNat
          · rw [if_pos e, zB_shl (by omega) (by omega)]
            constructor
            · intro q
              rw [show (p : Int) = pOf (mem 123) a.toNat by omega, show s = rAb c (gR (mem 123) a.toNat) by omega]
            · intro q
              have := congrArg Prod.snd q
              have : s = rAb c (gR (mem 123) a.toNat) := this
              omega
          · rw [if_neg e]
            refine ⟨fun q => absurd q (zB_0 s), fun q => absurd ?_ e⟩
            have := congrArg Prod.fst q
            have : (p : Int) = pOf (mem 123) a.toNat := this
            omega
        exact ⟨key _ (val 132 (Or.inl rfl)), key _ (val 133 (Or.inr rfl))⟩
      refine l_Mo_round (d := d + 2) (mem := m5) (pl0 := pOf (mem 123) a.toNat) (s0 := rAb c (gR (mem 123) a.toNat)) (by rw [e5]; exact w1) hcz c4 (by rw [e5]; exact hpl) hs0 wl1 (fun m6 v6 hv6 hf6 => ?_) 13473 0 m5 1 (by omega) (Or.inr rfl) ⟨fun _ => ⟨_, rfl⟩, fun _ => rfl⟩ (by rw [e5]; exact hfr) (fun j hj => absurd hj (Nat.not_lt_zero _)) (fun _ _ => rfl)
      rw [e5] at hv6
      have g6 : fFq m1 m6 := fun k hk => by rw [hf6 k hk, g5f k hk]
      exact ⟨fun _ => hR m6 (hI.sc (hs.trans g6.sc)), fun q => absurd (lvA_fn hv hv6) q⟩
    | succ N ih =>
      intro i m hi h1 hfm
      refine v_Mo_round_38 ⟨fun q => by omega, fun _ => ⟨by omega, fun m6 f6 => ⟨by omega, fun m7 f7 x6 e6 => ?_⟩⟩⟩
      rw [za (by omega)] at e6
      rw [e6]
      rw [Int.toNat_natCast] at f6 f7
      refine ih (i + 1) m7 (by omega) (fun p hp => ?_) (fun k hk => by rw [← hfm k hk]; funext j; rw [f7, zup_k (by omega), f6, zup_k (by omega)])
      by_cases e : p = i
      · rw [e]
        exact ⟨by rw [f7, zup_k (by omega), f6, zup_e], by rw [f7, zup_e]⟩
      · rw [f7, zup_k (by omega), zup_j e, f6, zup_j e, zup_k (by omega)]
        exact h1 p (by omega)
  exact clr 570 0 m1 (by omega) (fun p hp => by omega) (fun _ _ => rfl)
end
