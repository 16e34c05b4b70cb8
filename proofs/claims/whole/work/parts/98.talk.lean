section
/-! talk and cup agree. -/
variable {d w u : Nat} {mem m m' m2 : zMem} {Q : Int → zMem → Prop} {R S : zMem → Prop} {V : Nat → Prop} {rmo : Nat → Int} {nx : Nat → Nat → Prop} {g : zPg} {rm rp rq : Int} {s t : Nat}
def pls (g : zPg) (rp rq : Int) (s : Nat) : Int := if s < 28 then 15 * (s : Int) else pNew (rmoS g rp rq s)
theorem pls_rep (hD : gDo g) (hL : gL g ≠ 1) (hp : 0 ≤ rp ∧ rp < 10) (hq : 0 ≤ rq ∧ rq < 10) (hV : vS g s) : pRep g (pls g rp rq s) (rmoS g rp rq s) (if s < 28 then ((s / 2 : Nat) : Int) else -4) (-4) ∧ pls g rp rq s % 15 = 0 ∧ zn4 (if s < 28 then ((s / 2 : Nat) : Int) else -4) = lsS s ∧ s < 30 := by
  have hN := hD.1
  have hs30 : s < 30 := by unfold vS at hV; omega
  by_cases h : s < 28
  · unfold pls lsS rmoS
    rw [if_pos h, if_pos h, if_pos h, if_pos h]
    have hs : (s : Int) < 2 * gN g := by
      rcases hV with q | q | q
      · exact q
      · omega
      · omega
    refine ⟨⟨⟨by omega, by omega, fun _ => by omega, fun _ => by omega⟩, ?_, ?_, ?_⟩, by omega, ?_, hs30⟩
    · unfold pR
      rw [if_neg (by omega), show (15 * (s : Int)) / 15 = s by omega]
      by_cases e : s % 2 = 0
      · rw [if_pos e]
        unfold gA
        congr 1
        omega
      · rw [if_neg e]
        unfold gB
        congr 1
        omega
    · unfold pL
      rw [if_neg (by omega)]
      omega
    · unfold pB
      rw [if_neg hL]
      omega
    · unfold zn4
      rw [if_neg (by omega)]
  · unfold pls lsS
    rw [if_neg h, if_neg h, if_neg h]
    have hr : 0 ≤ rmoS g rp rq s ∧ rmoS g rp rq s < 10 := by
      unfold rmoS
      rw [if_neg h]
      split
      · exact hp
      · exact hq
    exact ⟨pRep.new hr, by unfold pNew; omega, by decide, hs30⟩
theorem pls_sb (hL : gL g ≠ 1) {k : Nat} (hk : k < 14) {pl r : Int} (hr : pR g pl = r) : pStep g pl k = pls g rp rq (sb g k r) := by
  have := sb_lt (g := g) (k := k) (r := r) hk
  unfold pStep pls pMk
  rw [if_pos this, if_neg hL, if_neg (by omega), if_pos rfl, hr]
  unfold sb
  split <;> omega
theorem vS_cl (hD : gDo g) {s t : Nat} (hV : vS g s) (h : nxS g rp rq s t) : vS g t := by
  have hN := hD.1
  rcases h with ⟨k, h1, h2⟩ | ⟨-, h2⟩
  · have hk : (k : Int) < gN g := h1.1.1
    left
    rw [h2]
    unfold sb
    split <;> omega
  · rw [h2]; exact hV
theorem nx_pdn (hD : gDo g) (hL : gL g ≠ 1) (hp : 0 ≤ rp ∧ rp < 10) (hq : 0 ≤ rq ∧ rq < 10) (hV : vS g s) (pl' : Int) : pdn g (pls g rp rq s) pl' ↔ ∃ t, nxS g rp rq s t ∧ pl' = pls g rp rq t := by
  obtain ⟨h1, h2, h3, h4⟩ := pls_rep hD hL hp hq hV
  have hN := hD.1
  have hm : ∀ k : Nat, pMay g (pls g rp rq s) k ↔ gMay g (rmoS g rp rq s) (lsS s) (-1) k := fun k => by
    rw [h1.may k, h3, show zn4 (-4) = -1 by decide]
  unfold pdn nxS nxs
  constructor
  · rintro (⟨k, k1, k2⟩ | ⟨k1, k2⟩)
    · have k1' := (hm k).mp k1
      have hk : (k : Int) < gN g := k1'.1.1
      exact ⟨sb g k (rmoS g rp rq s), Or.inl ⟨k, k1', rfl⟩, by rw [k2]; exact pls_sb hL (by omega) h1.2.1⟩
    · exact ⟨s, Or.inr ⟨fun k hk => k1 k ((hm k).mpr hk), rfl⟩, k2⟩
  · rintro ⟨t, ⟨k, k1, k2⟩ | ⟨k1, k2⟩, k3⟩
    · have hk : (k : Int) < gN g := k1.1.1
      exact Or.inl ⟨k, (hm k).mpr k1, by rw [k3, k2]; exact (pls_sb hL (by omega) h1.2.1).symm⟩
    · exact Or.inr ⟨fun k hk => k1 k ((hm k).mp hk), by rw [k3, k2]⟩
theorem fsp_ok (hD : gDo g) (hL : gL g ≠ 1) {p new : Nat} (hrm : rm ≤ 10) (hW : gWk g rm p) (hn : new = 28 ∨ new = 29) (hr : rmoS g rp rq new = gR g p) : vS g (fsp g (gR g p) (zn4 (gT g p)) new) ∧ pls g rp rq (fsp g (gR g p) (zn4 (gT g p)) new) = pOf g p := by
  have hN := hD.1
  obtain ⟨w1, w2, w3, w4⟩ := hW
  unfold pOf pMk gBf
  rw [if_neg hL, if_pos rfl]
  by_cases h : gT g p = -4
  · have e : zn4 (gT g p) = -1 := by rw [h]; decide
    unfold fsp
    rw [if_pos e, if_pos h]
    refine ⟨Or.inr hn, ?_⟩
    unfold pls pNew
    rw [if_neg (by omega), hr]
    omega
  · obtain ⟨a1, a2, a3⟩ := w2.resolve_left h
    have e : zn4 (gT g p) = gT g p := by unfold zn4; rw [if_neg h]
    have hd := hD.2.2 (gT g p).toNat (by omega)
    unfold fsp gSd
    rw [e, if_neg (show ¬ gT g p = -1 by omega), if_neg h]
    by_cases q : gA g (gT g p).toNat = gR g p
    · rw [if_pos q, if_neg (fun z => hd.2.2.1 (by rw [q, z.2]))]
      refine ⟨Or.inl (by omega), ?_⟩
      unfold pls
      rw [if_pos (by omega)]
      omega
    · rw [if_neg q, if_pos ⟨h, a3.resolve_left q⟩]
      refine ⟨Or.inl (by omega), ?_⟩
      unfold pls
      rw [if_pos (by omega)]
      omega
def s0W (rmo : Nat → Int) (fs ss : Nat) (x : Nat × Nat × Nat) : Prop := x = (if rmo fs = rmo ss then 1 else 0, fs, ss)
def s0V (rmo : Nat → Int) (fs ss : Nat) (x : Nat × Nat × Nat) : Prop := x = (0, fs, ss) ∨ (rmo fs = rmo ss ∧ x = (1, fs, ss))
theorem c_Tw_together (hp : wPi mem V rmo nx) {fs ss : Nat} (hf : V fs) (hs : V ss) (h6 : mem 90 6 = fs) (h7 : mem 90 7 = ss) (hQ1 : rmo fs = rmo ss → Q 1 mem) (hQ0 : rmo fs ≠ rmo ss → Q 0 mem) : zC (d + 1) K_Tw_together [(2, Int.ofNat 90)] mem Q := by
  obtain ⟨a1, a2, -⟩ := hp.1 fs hf
  obtain ⟨b1, b2, -⟩ := hp.1 ss hs
  refine v_Tw_together ?_
  rw [h6, h7, Int.toNat_natCast, Int.toNat_natCast, a2, b2]
  exact ⟨by omega, by omega, hQ0, hQ1⟩
theorem wRep0 (h0 : ∀ l f : Nat, l < 5 → f < 30 → mem (95 + l) f = 0 ∧ mem (107 + l) f = 0) : wRep mem True (fun _ => False) (fun _ => False) (fun x => zB (mem (101 + x.1) x.2.1) x.2.2) := by
  refine ⟨fun l f s hl hf hs => ?_, fun ⟨l, f, s, _, _, _, q, _⟩ => q.elim, fun _ => Or.inl trivial⟩
  rw [(h0 l f hl hf).1, (h0 l f hl hf).2]
  exact ⟨⟨fun q => absurd q (zB_0 s), fun q => q.elim False.elim False.elim⟩, ⟨fun q => absurd q (zB_0 s), fun q => q.1.elim⟩, Iff.rfl⟩
theorem wRep.sure {X : Prop} {B Nw Fr : Nat × Nat × Nat → Prop} (h : wRep m X B Nw Fr) (hc : wCm B Nw) : wRep m False B Nw Fr := ⟨h.1, h.2.1, fun _ => Or.inr hc⟩
theorem c_Tw_untilTalked (hp : wPi mem V rmo nx) (hcl : ∀ s t, V s → nx s t → V t) {fs ss k : Nat} (hf : V fs) (hs : V ss) (h6 : mem 90 6 = fs) (h7 : mem 90 7 = ss) (h0 : ∀ l f : Nat, l < 5 → f < 30 → mem (95 + l) f = 0 ∧ mem (107 + l) f = 0) (hk : 1 ≤ k ∧ k ≤ 5) (hQ : ∀ (v : Int) (m' : zMem), lvA (s0W rmo fs ss) (stW rmo nx k) (fun x => x.1 = k) v → wFr mem m' → Q v m') : zC (d + 5) K_Tw_untilTalked [(2, Int.ofNat 90), (0, (k : Int))] mem Q := by
  have hf30 := (hp.1 fs hf).1
  have hs30 := (hp.1 ss hs).1
  have go : ∀ l : Nat, l = (if rmo fs = rmo ss then 1 else 0) → l < k → zC (d + 4) K_Tw_put [(2, Int.ofNat 90), (0, (l : Int)), (0, (fs : Int)), (0, zshl 1 (ss : Int))] mem (fun r2 m2 => zG (d + 5) M_Tw_untilTalked 37 [(2, Int.ofNat 90), (0, (k : Int)), (9, 0), (0, 1)] [] m2 Q) := by
    intro l hl hlk
    refine c_Tw_put (d := d + 3) (wRep0 h0) (by omega) (fun m1 hr1 hf1 => ?_)
    have hbit : ∀ s, zB (zshl 1 (ss : Int)) s ↔ s = ss := fun s => by rw [zB_shl (by omega) (by omega)]; omega
    have hNw : ∀ x : Nat × Nat × Nat, (False ∨ (x.1 = l ∧ x.2.1 = fs ∧ zB (zshl 1 (ss : Int)) x.2.2)) ↔ s0W rmo fs ss x := by
      rintro ⟨x1, x2, x3⟩
      show (False ∨ (x1 = l ∧ x2 = fs ∧ zB (zshl 1 (ss : Int)) x3)) ↔ (x1, x2, x3) = (if rmo fs = rmo ss then 1 else 0, fs, ss)
      rw [hbit, ← hl, Prod.mk.injEq, Prod.mk.injEq]
      constructor
      · rintro (q | q)
        · exact q.elim
        · exact q
      · exact Or.inr
    refine until_gen (D := d + 2) (G := fun i m => zG (d + 5) M_Tw_untilTalked 37 [(2, Int.ofNat 90), (0, (k : Int)), (9, 0), (0, (i : Int))] [] m Q) (MIN := fun m1 Q' => zC (d + 4) K_Tw_talkMinute [(2, Int.ofNat 90), (0, (k : Int))] m1 Q') (R := fun x => x.1 < k ∧ V x.2.1 ∧ V x.2.2) (s0 := s0W rmo fs ss) (stp := stW rmo nx k) (T := fun x => x.1 = k) (mem := mem) (V := V) (rmo := rmo) (nx := nx) ?_ ?_ ?_ ?_ hp hQ 4501 0 m1 _ _ _ (by omega) hf1 (hr1.sure ⟨l, fs, ss, by omega, by omega, by omega, (hNw _).mpr (by rw [hl]; rfl), fun q => q⟩) (fun x => ?_) (fun x => ?_) ?_
    · intro i m h
      refine v_Tw_untilTalked_37 ⟨h.1, fun c => ⟨(h.2 c).1, fun c2 => ?_⟩⟩
      refine zC.post ((h.2 c).2 c2) (fun r1 m1 h1 => zC.post h1 (fun r2 m2 h2 => ⟨fun q x3 e3 => ?_, h2.2⟩))
      rw [za (by omega)] at e3
      rw [e3]
      exact h2.1 q
    · intro m1 X B Fr Q' g1 g2 g3 g4 g5
      exact c_Tw_talkMinute (d := d + 1) g1 g2 hcl g3 (by omega) g4 g5
    · exact fun x hx => ⟨Nat.lt_of_lt_of_le hx.1 hk.2, hx.2⟩
    · have hI : ∀ n x, wk (s0W rmo fs ss) (stW rmo nx k) n x → x.1 ≤ k ∧ V x.2.1 ∧ V x.2.2 := by
        intro n
        induction n with
        | zero =>
          intro x hx
          rw [show x = _ from hx]
          refine ⟨?_, hf, hs⟩
          show (if rmo fs = rmo ss then 1 else 0) ≤ k
          split <;> omega
        | succ n ih =>
          rintro x ⟨z, z1, z2, z3, z4, z5⟩
          obtain ⟨i1, i2, i3⟩ := ih z z1
          refine ⟨?_, hcl _ _ i2 z3, hcl _ _ i3 z4⟩
          rw [z5]
          split <;> omega
      intro n x hx hT
      obtain ⟨i1, i2⟩ := hI n x (lvF_wk n x hx)
      have hT' : x.1 ≠ k := hT
      exact ⟨by omega, i2⟩
    · show (False ∨ _) ↔ _
      rw [lvB_0, ← hNw x]
      exact ⟨fun q => q.elim False.elim id, Or.inr⟩
    · show (_ ∧ ¬ False) ↔ _
      rw [lvF_0, ← hNw x]
      exact ⟨fun q => q.1, fun q => ⟨q, fun z => z⟩⟩
    · intro j hj
      rw [show j = 0 by omega]
      rintro ⟨x, x1, x2⟩
      have x1' : x = _ := x1
      rw [x1'] at x2
      have : (if rmo fs = rmo ss then 1 else 0) = k := x2
      omega
  have fin : ∀ l : Nat, l = (if rmo fs = rmo ss then 1 else 0) → l = k → Q 0 mem := by
    intro l hl hlk
    refine hQ 0 mem (Or.inl ⟨0, rfl, ⟨(l, fs, ss), ?_, hlk⟩, fun j hj => by omega⟩) wFr.refl
    show (l, fs, ss) = (if rmo fs = rmo ss then 1 else 0, fs, ss)
    rw [hl]
  refine v_Tw_untilTalked (c_Tw_together (d := d + 3) hp hf hs h6 h7 (fun c => ⟨fun q => absurd q (by decide), fun _ => ?_⟩) (fun c => ⟨fun _ => ?_, fun q => absurd rfl q⟩))
  · rw [h6, h7]
    exact ⟨fun c1 => go 1 (by rw [if_pos c]) (by omega), fun c1 => fin 1 (by rw [if_pos c]) (by omega)⟩
  · rw [h6, h7]
    exact ⟨fun c1 => go 0 (by rw [if_neg c]) (by omega), fun c1 => by omega⟩
theorem c_Tw_untilCupIn (hp : wPi mem V rmo nx) (hcl : ∀ s t, V s → nx s t → V t) (hne : ∀ s, V s → ∃ t, nx s t) {fs ss : Nat} {c0 : Int} (hc0 : 0 ≤ c0 ∧ c0 < 10) (hf : V fs) (hs : V ss) (h6 : mem 90 6 = fs) (h7 : mem 90 7 = ss) (h0 : ∀ l f : Nat, l < 5 → f < 30 → mem (95 + l) f = 0 ∧ mem (107 + l) f = 0) (hQ : ∀ (v : Int) (m' : zMem), lvA (s0V rmo fs ss) (stV rmo nx) (tV' rmo c0) v → wFr mem m' → Q v m') : zC (d + 5) K_Tw_untilCupIn [(2, Int.ofNat 90), (0, c0)] mem Q := by
  obtain ⟨hf30, hf91, -⟩ := hp.1 fs hf
  have hs30 := (hp.1 ss hs).1
  have hbit : ∀ s, zB (zshl 1 (ss : Int)) s ↔ s = ss := fun s => by rw [zB_shl (by omega) (by omega)]; omega
  have start : ∀ (m : zMem) (Nw Fr : Nat × Nat × Nat → Prop) (X : Prop), rmo fs ≠ c0 → wRep m X (fun _ => False) Nw Fr → (∀ x, Nw x ↔ s0V rmo fs ss x) → wFr mem m → zG (d + 5) M_Tw_untilCupIn 58 [(2, Int.ofNat 90), (0, c0), (0, 1)] [] m Q := by
    intro m Nw Fr X hc hr hNw hfm
    refine until_gen (D := d + 2) (G := fun i m => zG (d + 5) M_Tw_untilCupIn 58 [(2, Int.ofNat 90), (0, c0), (0, (i : Int))] [] m Q) (MIN := fun m1 Q' => zC (d + 4) K_Tw_cupMinute [(2, Int.ofNat 90), (0, c0)] m1 Q') (R := fun x => x.1 < 2 ∧ V x.2.1 ∧ V x.2.2) (s0 := s0V rmo fs ss) (stp := stV rmo nx) (T := tV' rmo c0) (mem := mem) (V := V) (rmo := rmo) (nx := nx) ?_ ?_ ?_ ?_ hp hQ 4501 0 m _ _ _ (by omega) hfm (hr.sure ⟨0, fs, ss, by omega, by omega, by omega, (hNw _).mpr (Or.inl rfl), fun q => q⟩) (fun x => ?_) (fun x => ?_) ?_
    · intro i m h
      refine v_Tw_untilCupIn_58 ⟨h.1, fun c => ⟨(h.2 c).1, fun c2 => ?_⟩⟩
      refine zC.post ((h.2 c).2 c2) (fun r1 m1 h1 => zC.post h1 (fun r2 m2 h2 => ⟨fun q x3 e3 => ?_, h2.2⟩))
      rw [za (by omega)] at e3
      rw [e3]
      exact h2.1 q
    · intro m1 X B Fr Q' g1 g2 g3 g4 g5
      exact c_Tw_cupMinute (d := d + 1) rfl hc0 hne g1 g2 hcl g3 g4 g5
    · exact fun x hx => ⟨Nat.lt_trans hx.1 (by decide), hx.2⟩
    · have hI : ∀ n x, wk (s0V rmo fs ss) (stV rmo nx) n x → x.1 < 2 ∧ V x.2.1 ∧ V x.2.2 := by
        intro n
        induction n with
        | zero =>
          intro x hx
          rcases hx with hx | ⟨-, hx⟩
          · rw [hx]; exact ⟨by show 0 < 2; omega, hf, hs⟩
          · rw [hx]; exact ⟨by show 1 < 2; omega, hf, hs⟩
        | succ n ih =>
          rintro x ⟨z, z1, z2, z3, z4⟩
          obtain ⟨i1, i2, i3⟩ := ih z z1
          exact ⟨by omega, hcl _ _ i2 z2, hcl _ _ i3 z3⟩
      intro n x hx hT
      exact hI n x (lvF_wk n x hx)
    · show (False ∨ _) ↔ _
      rw [lvB_0, ← hNw x]
      exact ⟨fun q => q.elim False.elim id, Or.inr⟩
    · show (_ ∧ ¬ False) ↔ _
      rw [lvF_0, ← hNw x]
      exact ⟨fun q => q.1, fun q => ⟨q, fun z => z⟩⟩
    · intro j hj
      rw [show j = 0 by omega]
      rintro ⟨x, x1, x2⟩
      rcases x1 with x1 | ⟨x0, x1⟩
      · rw [x1] at x2
        exact hc x2
      · rw [x1] at x2
        exact hc (x0.trans x2)
  refine v_Tw_untilCupIn ?_
  rw [h6, h7, Int.toNat_natCast, hf91]
  refine ⟨by omega, fun c => ?_, fun c => ?_⟩
  · refine c_Tw_put (d := d + 3) (l := 0) (wRep0 h0) (by omega) (fun m1 hr1 hf1 => ?_)
    have e6 : m1 90 6 = fs := by rw [hf1.2 6 (by omega), h6]
    have e7 : m1 90 7 = ss := by rw [hf1.2 7 (by omega), h7]
    refine c_Tw_together (d := d + 3) (hp.wf hf1) hf hs e6 e7 (fun c1 => ⟨fun q => absurd q (by decide), fun _ => ?_⟩) (fun c1 => ⟨fun _ => ?_, fun q => absurd rfl q⟩)
    · rw [e6, e7]
      refine c_Tw_put (d := d + 3) (l := 1) hr1 (by omega) (fun m2 hr2 hf2 => start m2 _ _ _ c hr2 ?_ (hf1.trans hf2))
      rintro ⟨x1, x2, x3⟩
      show ((False ∨ (x1 = 0 ∧ x2 = fs ∧ zB (zshl 1 (ss : Int)) x3)) ∨ (x1 = 1 ∧ x2 = fs ∧ zB (zshl 1 (ss : Int)) x3)) ↔ ((x1, x2, x3) = (0, fs, ss) ∨ (rmo fs = rmo ss ∧ (x1, x2, x3) = (1, fs, ss)))
      rw [hbit, Prod.mk.injEq, Prod.mk.injEq, Prod.mk.injEq, Prod.mk.injEq]
      constructor
      · rintro ((q | q) | q)
        · exact q.elim
        · exact Or.inl q
        · exact Or.inr ⟨c1, q⟩
      · rintro (q | q)
        · exact Or.inl (Or.inr q)
        · exact Or.inr q.2
    · rw [e6]
      refine c_Tw_put (d := d + 3) (l := 1) hr1 (by omega) (fun m2 hr2 hf2 => start m2 _ _ _ c hr2 ?_ (hf1.trans hf2))
      rintro ⟨x1, x2, x3⟩
      show ((False ∨ (x1 = 0 ∧ x2 = fs ∧ zB (zshl 1 (ss : Int)) x3)) ∨ (x1 = 1 ∧ x2 = fs ∧ zB 0 x3)) ↔ ((x1, x2, x3) = (0, fs, ss) ∨ (rmo fs = rmo ss ∧ (x1, x2, x3) = (1, fs, ss)))
      rw [hbit, Prod.mk.injEq, Prod.mk.injEq, Prod.mk.injEq, Prod.mk.injEq]
      constructor
      · rintro ((q | q) | q)
        · exact q.elim
        · exact Or.inl q
        · exact absurd q.2.2 (zB_0 _)
      · rintro (q | q)
        · exact Or.inl (Or.inr q)
        · exact absurd q.1 c1
  · exact hQ 0 mem (Or.inl ⟨0, rfl, ⟨(0, fs, ss), Or.inl rfl, c⟩, fun j hj => by omega⟩) wFr.refl
end
