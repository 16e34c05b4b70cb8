section
variable {d w : Nat} {mem m m' m2 : zMem} {Q : Int → zMem → Prop} {R S : zMem → Prop} {g g' : zPg} {rm pl r t u p : Int} {k s tn : Nat} {some : Int} {M M' Fr Fr' : Nat → Nat → Prop} {pl0 home : Int} {s0 wh n : Nat}
theorem rLF_len (hD : gDo g) (hc : zpc 14 some ≤ 5) (hp : pOK g pl0) (hs : s0 < 32) {x : Int × Nat} (h : rLF g some pl0 s0 n x) : n < 13472 := by
  have rc := fun n => rLF_rc (pl0 := pl0) (some := some) hD hc hp hs n
  refine lv_len (code := fun x : Int × Nat => 32 * rPh x.1 + x.2) (fun n x hx => ?_) (fun n m x y hx hy e => ?_) h
  · obtain ⟨h1, h2⟩ := rc n x hx
    have := rPh_lt h1.1.1
    show 32 * rPh x.1 + x.2 < 13472
    omega
  · obtain ⟨h1, h2⟩ := rc n x hx
    obtain ⟨h3, h4⟩ := rc m y hy
    have e : 32 * rPh x.1 + x.2 = 32 * rPh y.1 + y.2 := e
    have e1 : x.1 = y.1 := rRc_inj h1 h3 (by omega)
    have e2 : x.2 = y.2 := by omega
    exact Prod.ext e1 e2
theorem rAb_z (hc : zpc 14 some ≤ 5) (hr : 0 ≤ r ∧ r < 10) : (if zb some r.toNat = true then zshl 1 (zpc r.toNat some) else 0) = (rAb some r : Int) := by
  unfold rAb
  by_cases q : zb some r.toNat = true
  · rw [if_pos q, if_pos q]
    have h1 := rank_lt hc (n := r.toNat) (by omega) q
    have h2 := zpc_ge some r.toNat
    have := zshl_5 (zpc r.toNat some).toNat (by omega)
    rw [show Int.ofNat (zpc r.toNat some).toNat = zpc r.toNat some by simp; omega] at this
    exact this
  · rw [if_neg q, if_neg q]
    rfl
theorem whole_lt (hc : zpc 14 some ≤ 5) : 2 ^ (zpc 14 some).toNat - 1 < 32 ∧ ((2 ^ (zpc 14 some).toNat - 1 : Nat) : Int) = ((2 ^ (zpc 14 some).toNat : Nat) : Int) - 1 := by
  have h := zpc_ge some 14
  have : (zpc 14 some).toNat ≤ 5 := by omega
  have h1 : 2 ^ (zpc 14 some).toNat ≤ 2 ^ 5 := Nat.pow_le_pow_right (by decide) this
  have h2 : 0 < 2 ^ (zpc 14 some).toNat := Nat.two_pow_pos _
  have h3 : (2 : Nat) ^ 5 = 32 := by decide
  rw [h3] at h1
  generalize 2 ^ (zpc 14 some).toNat = P at h1 h2
  omega
theorem l_Ro_least (hD : gDo g) (hH : Hs mem 2 g rm) (hc : zpc 14 some ≤ 5) (hwh : wh < 32) (hcx : rCx mem some home wh) (hp0 : pOK g pl0) (hs0 : s0 < 32) (hpn : 420 ≤ pl0 → pl0 = pNew home ∧ (0 ≤ home ∧ home < 10))
    (hQ : ∀ (m' : zMem) (v : Int), lvA (rS0 pl0 s0) (rSt g some) (rTg g home wh) v → (∀ c, c < 79 ∨ 86 < c → m' c = mem c) → Q v m') : ∀ (N n : Nat) (m : zMem), n + N = 13472 → rRep m (n % 2) (rCB g some pl0 s0 n) (rCF g some pl0 s0 n) → (∀ x, x < 421 → m (81 + (n + 1) % 2) x = 0) → (∀ j, j < n + 1 → ¬ lvH (rS0 pl0 s0) (rSt g some) (rTg g home wh) j) → (∀ c, c < 79 ∨ 86 < c → m c = mem c) → zG (d + 4) M_Ro_least 117 [(2, Int.ofNat 77), (2, Int.ofNat 2), (9, 0), (9, 0), (9, 0), (9, 0), (9, 0), (0, (n : Int) + 1)] [] m Q := by
  intro N
  induction N with
  | zero =>
    intro n m hn hr hz hno hf
    refine v_Ro_least_117 (w := 69) (by decide) ⟨fun c => hQ m (-4) (Or.inr ⟨rfl, n, fun x hx => ?_, fun j hj => hno j (by omega)⟩) hf, fun c => by omega⟩
    have := rLF_len hD hc hp0 hs0 hx
    omega
  | succ N ih =>
    intro n m hn hr hz hno hf
    have e1 : zand (zsub ((n : Int) + 1) 1) 1 = ((n % 2 : Nat) : Int) := by
      rw [zs (by omega), zand1 (by unfold zI; omega)]
      omega
    have e2 : zand ((n : Int) + 1) 1 = (((n + 1) % 2 : Nat) : Int) := by
      rw [zand1 (by unfold zI; omega)]
      omega
    refine v_Ro_least_117 (w := 69) (by decide) ⟨fun c => by omega, fun c => ?_⟩
    rw [e1, e2, Int.toNat_natCast]
    refine ⟨by omega, fun c2 => hQ m (-4) (Or.inr ⟨rfl, n, fun x hx => ?_, fun j hj => hno j (by omega)⟩) hf, fun c2 => ?_⟩
    · obtain ⟨h1, h2⟩ := rLF_rc hD hc hp0 hs0 n x hx
      have hlt := rPh_lt h1.1.1
      have hb : zB (m (81 + n % 2) (rPh x.1)) x.2 := (hr.2.1 _ hlt _ h2).mpr ⟨x.1, rfl, hx⟩
      obtain ⟨j, j1, -⟩ := hr.2.2.2.2.2 _ hlt (fun z => by rw [z] at hb; exact zB_0 _ hb)
      omega
    · refine c_Ro_spreadLevel (d := d) (n := n) (old := n % 2) hD (hH.fr (fun c c1 c2 => hf c (by omega))) hc hwh (hcx.fr (hf 77 (by omega)) (hf 78 (by omega))) hp0 hs0 hpn (by omega) hr hz (fun m1 v hv hvi hr1 hz1 hf1 => ⟨fun q x2 f2 => ?_, fun q => ?_⟩)
      · rw [za (by omega)] at f2
        rw [f2]
        refine ih (n + 1) m1 (by omega) hr1 (fun x hx => ?_) (fun j hj hh => ?_) (fun c hc => by rw [hf1 c hc, hf c hc])
        · rw [show (n + 1 + 1) % 2 = n % 2 by omega]
          exact hz1 x hx
        · by_cases e : j = n + 1
          · rw [e] at hh
            have := hvi.mpr (lv_hit' hh)
            omega
          · exact hno j (by omega) hh
      · obtain ⟨x, y, h1, h2, h3⟩ := hvi.mp (by omega)
        exact hQ m1 _ (Or.inl ⟨n + 1, by omega, lv_hit hno h1 h2 h3, fun j hj => hno j hj⟩) (fun c hc => by rw [hf1 c hc, hf c hc])
theorem c_Ro_least (hD : gDo g) (hH : Hs mem 2 g rm) (hz : zI some) (hc : zpc 14 some ≤ 5) (hhi : ∀ j, 10 ≤ j → ¬ zB some j) (hw : zkd w = 9) (hw9 : w < 70) (hW : Ws mem w r t u) (hp : pRep g pl0 r t u) (hrb : 0 ≤ r ∧ r < 10)
    (hQ : ∀ (m' : zMem) (v : Int), lvA (rS0 pl0 (rAb some r)) (rSt g some) (rTg g r (2 ^ (zpc 14 some).toNat - 1)) v → (∀ c, c < 77 ∨ 86 < c → m' c = mem c) → Q v m') : zC (d + 5) K_Ro_least [(2, Int.ofNat 77), (2, Int.ofNat 2), (2, Int.ofNat w), (0, some)] mem Q := by
  have hN := hD.1
  have htb := hp.tb
  have hpb := pB_b hp.1
  have hr10 : 0 ≤ r ∧ r < 10 := hrb
  obtain ⟨wl1, wl2⟩ := whole_lt hc
  have hs0 := rAb_lt hc hr10
  refine v_Ro_least hw ?_
  rw [hW.1]
  refine c_Ro_begin (d := d + 2) hz hc hhi (fun m1 a5 a6 a78 a0 b0 b1 hf1 => ?_)
  rw [← wl2] at a6
  have hcx : rCx m1 some r (2 ^ (zpc 14 some).toNat - 1) := ⟨a5, a6, a78⟩
  have e78 := a78 r.toNat (by omega)
  have hH1 : Hs m1 2 g rm := hH.fr (fun c c1 c2 => hf1 c (by omega))
  have ew1 : m1 w 1 = zn4 t := by rw [hf1 w (by omega)]; exact hW.2.1
  have ew2 : m1 w 2 = zn4 u := by rw [hf1 w (by omega)]; exact hW.2.2
  have e21 : m1 2 1 = gL g := hH1.2.1
  have hpn : 420 ≤ pl0 → pl0 = pNew r ∧ (0 ≤ r ∧ r < 10) := by
    intro q
    refine ⟨?_, hr10⟩
    have ht : t = -4 := by
      rcases htb with z | z
      · exact z
      · have := (hp.side hD z.1).2
        omega
    obtain ⟨⟨p1, p2, p3, p4⟩, p5, p6, p7⟩ := hp
    unfold pR at p5
    rw [if_pos (by omega)] at p5
    unfold pNew
    have := p3 (by omega)
    omega
  -- behind the spot
  have go : ∀ (x2 : Int) (sp : Int), x2 = (rAb some r : Int) → sp = ((rPh pl0 : Nat) : Int) → ¬ rAb some r = 2 ^ (zpc 14 some).toNat - 1 → zG (d + 5) M_Ro_least 101 [(2, Int.ofNat 77), (2, Int.ofNat 2), (9, 0), (9, 0), (0, x2), (9, 0), (9, 0), (9, 0)] [(0, sp)] m1 Q := by
    intro x2 sp hx2 hsp hne
    rw [hx2, hsp]
    refine v_Ro_least_101 (w := 69) (by decide) ?_
    have hr0 : rRep m1 0 (fun _ _ => False) (fun _ _ => False) := by
      refine ⟨fun x hx s hs => ?_, fun x hx s hs => ?_, by rw [b0]; omega, fun i hi => by rw [b0] at hi; omega, fun i j _ hj => by rw [b0] at hj; omega, fun x hx q => ?_⟩
      · rw [(a0 x hx).1]; exact ⟨fun q => absurd q (zB_0 s), fun q => q.elim⟩
      · rw [show 81 + 0 = 81 from rfl, (a0 x hx).2.1]; exact ⟨fun q => absurd q (zB_0 s), fun q => q.elim⟩
      · exact absurd (a0 x hx).2.1 q
    refine c_Ro_put (d := d + 3) (tn := 0) (by omega) hr0 (fun _ _ _ _ q => q) (rPh_lt hp.1.1) (fun m2 hr2 hf2 h862 => ?_)
    have hz2 : zI (zshl 1 (rAb some r : Int)) := zshl_I _ _
    have rc := rLF_rc (pl0 := pl0) (some := some) (s0 := rAb some r) hD hc hp.1 hs0
    have hr3 : rRep m2 (0 % 2) (rCB g some pl0 (rAb some r) 0) (rCF g some pl0 (rAb some r) 0) := by
      refine hr2.cg (fun x s hx hs => ?_) (fun x s hx hs => ?_)
      · rw [zB_shl (by omega) (by omega)]
        constructor
        · rintro ⟨q, q1, q2⟩
          have q2 : (q, s) = (pl0, rAb some r) := q2
          have e1 : q = pl0 := congrArg Prod.fst q2
          have e2 : s = rAb some r := congrArg Prod.snd q2
          exact Or.inr ⟨by rw [← q1, e1], by omega⟩
        · rintro (q | ⟨q1, q2⟩)
          · exact q.elim
          · refine ⟨pl0, q1.symm, ?_⟩
            show (pl0, s) = (pl0, rAb some r)
            rw [show s = rAb some r by omega]
      · rw [zB_shl (by omega) (by omega)]
        constructor
        · rintro ⟨q, q1, q2⟩
          have q2 : (q, s) = (pl0, rAb some r) := q2
          have e1 : q = pl0 := congrArg Prod.fst q2
          have e2 : s = rAb some r := congrArg Prod.snd q2
          exact Or.inr ⟨by rw [← q1, e1], by omega, fun z => z⟩
        · rintro (q | ⟨q1, q2, -⟩)
          · exact q.elim
          · refine ⟨pl0, q1.symm, ?_⟩
            show (pl0, s) = (pl0, rAb some r)
            rw [show s = rAb some r by omega]
    refine l_Ro_least (d := d + 1) (mem := m2) (pl0 := pl0) (s0 := rAb some r) hD (hH1.fr (fun c c1 c2 => hf2 c (by omega) (by omega) (by omega) (by omega))) hc wl1 (hcx.fr (hf2 77 (by omega) (by omega) (by omega) (by omega)) (hf2 78 (by omega) (by omega) (by omega) (by omega))) hp.1 hs0 hpn (fun m3 v hv hf3 => hQ m3 v hv (fun c hc => ?_)) 13472 0 m2 (by omega) hr3 (fun x hx => ?_) (fun j hj hh => ?_) (fun _ _ => rfl)
    · rw [hf3 c (by omega), hf2 c (by omega) (by omega) (by omega) (by omega), hf1 c hc]
    · rw [hf2 (81 + (0 + 1) % 2) (by omega) (by omega) (by omega) (by omega)]
      exact (a0 x hx).2.2
    · rw [show j = 0 by omega] at hh
      obtain ⟨x, h1, h2, h3⟩ := hh
      have h1 : x = (pl0, rAb some r) := h1
      rw [h1] at h3
      exact hne h3
  have zero : rAb some r = 2 ^ (zpc 14 some).toNat - 1 → Q 0 m1 := by
    intro e
    refine hQ m1 0 (Or.inl ⟨0, rfl, ⟨(pl0, rAb some r), rfl, hp.2.1, e⟩, fun j hj => absurd hj (Nat.not_lt_zero _)⟩) hf1
  rw [a5, e78, a6, e21, ew1, ew2]
  have hab := rAb_z hc hr10
  have hcase : ∀ x2 : Int, x2 = (rAb some r : Int) → ((x2 ≠ ((2 ^ (zpc 14 some).toNat - 1 : Nat) : Int) → ((gL g ≠ 1 → ((zn4 t ≠ -1 → zC (d + 4) K_Ho_sideAt [(2, Int.ofNat 2), (0, zn4 t), (0, r)] m1 (fun r3 m2 => zG (d + 5) M_Ro_least 101 [(2, Int.ofNat 77), (2, Int.ofNat 2), (9, 0), (9, 0), (0, x2), (9, 0), (9, 0), (9, 0)] [(0, zadd (zadd (zmul r3 15) (-1)) 1)] m2 Q)) ∧ (zn4 t = -1 → zG (d + 5) M_Ro_least 101 [(2, Int.ofNat 77), (2, Int.ofNat 2), (9, 0), (9, 0), (0, x2), (9, 0), (9, 0), (9, 0)] [(0, 420)] m1 Q))) ∧ (gL g = 1 → ∀ x5 : Int, x5 = zn4 u → ((zn4 t ≠ -1 → zC (d + 4) K_Ho_sideAt [(2, Int.ofNat 2), (0, zn4 t), (0, r)] m1 (fun r6 m3 => zG (d + 5) M_Ro_least 101 [(2, Int.ofNat 77), (2, Int.ofNat 2), (9, 0), (9, 0), (0, x2), (9, 0), (9, 0), (9, 0)] [(0, zadd (zadd (zmul r6 15) x5) 1)] m3 Q)) ∧ (zn4 t = -1 → zG (d + 5) M_Ro_least 101 [(2, Int.ofNat 77), (2, Int.ofNat 2), (9, 0), (9, 0), (0, x2), (9, 0), (9, 0), (9, 0)] [(0, 420)] m1 Q))))) ∧ (x2 = ((2 ^ (zpc 14 some).toNat - 1 : Nat) : Int) → Q 0 m1)) := by
    intro x2 hx2
    have fresh : zn4 t = -1 → ((rPh pl0 : Nat) : Int) = 420 := by
      intro z
      have ht : t = -4 := by
        unfold zn4 at z
        split at z <;> omega
      have := hp.newp ht
      unfold rPh
      rw [if_neg (by omega)]
      rfl
    have side : ∀ a : Int, a = pB pl0 → zn4 t ≠ -1 → ∀ Q2 : Int → zMem → Prop, (∀ r3 : Int, zadd (zadd (zmul r3 15) a) 1 = ((rPh pl0 : Nat) : Int) → Q2 r3 m1) → zC (d + 4) K_Ho_sideAt [(2, Int.ofNat 2), (0, zn4 t), (0, r)] m1 Q2 := by
      intro a ha hne Q2 hQ2
      have ht0 : 0 ≤ t ∧ t < gN g := by
        unfold zn4 at hne
        split at hne <;> omega
      have ez : zn4 t = t := by unfold zn4; rw [if_neg (by omega)]
      rw [ez]
      obtain ⟨sd1, sd2⟩ := hp.side hD ht0.1
      refine c_Ho_sideAt (d := d + 3) (Or.inl rfl) hH1 hN.2 ht0 (hQ2 _ ?_)
      have hsb : ∀ sd : Int, sd = (if gA g t.toNat = r then 2 * t else 2 * t + 1) → 0 ≤ sd ∧ sd < 28 := by
        intro sd e
        rw [e]
        split <;> omega
      have hsb2 := hsb _ rfl
      generalize (if gA g t.toNat = r then 2 * t else 2 * t + 1) = sd at sd1 hsb2
      rw [ha, zm (by omega), za (x := sd * 15) (by omega), za (by omega)]
      unfold rPh
      rw [if_pos sd2]
      have := hp.1.1
      omega
    refine ⟨fun c => ?_, fun c => zero (by omega)⟩
    have hne : ¬ rAb some r = 2 ^ (zpc 14 some).toNat - 1 := fun e => c (by omega)
    refine ⟨fun c2 => ⟨fun c3 => side (-1) (by rw [hp.2.2.2, if_neg c2]) c3 _ (fun r3 e3 => go x2 _ hx2 e3 hne), fun c3 => go x2 _ hx2 (fresh c3).symm hne⟩, fun c2 x5 e5 => ⟨fun c3 => side x5 (by rw [e5, hp.2.2.2, if_pos c2]) c3 _ (fun r3 e3 => go x2 _ hx2 e3 hne), fun c3 => go x2 _ hx2 (fresh c3).symm hne⟩⟩
  by_cases q : zb some r.toNat = true
  · rw [if_pos q] at hab ⊢
    have h2 := zpc_ge some r.toNat
    refine ⟨hr10, fun _ => ⟨hr10, fun x2 e2 => hcase x2 (by rw [e2]; exact hab)⟩, fun z => by omega⟩
  · rw [if_neg q] at hab ⊢
    refine ⟨hr10, fun z => by omega, fun _ => ?_⟩
    have := hcase 0 hab
    exact this
end
