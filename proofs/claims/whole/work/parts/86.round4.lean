section
variable {d w : Nat} {mem m m' m2 : zMem} {Q : Int → zMem → Prop} {R S : zMem → Prop} {g g' : zPg} {rm pl r t u p : Int} {k s tn : Nat} {some : Int} {pl0 home : Int} {s0 wh n : Nat}
/-- the reference's rows of sets -/
def fRd (m : zMem) (g : zPg) (some pl0 : Int) (s0 n : Nat) : Prop := ∀ p : Nat, p < 570 → ∀ s, s < 32 → (zB (m 132 p) s ↔ rLB g some pl0 s0 n ((p : Int), s)) ∧ (zB (m 133 p) s ↔ rLF g some pl0 s0 n ((p : Int), s))
def fFq (mem m' : zMem) : Prop := (∀ k, k < 132 ∨ 134 < k → m' k = mem k)
theorem fFq.sc (h : fFq mem m') : zKp mem m' := ⟨fun k hk => h k (by omega), fun k k1 k2 => h k (by omega), fun k k1 k2 => h k (by omega), fun j hj => by rw [h 122 (by omega)]⟩
/-- what comes of the first places and doors -/
def fGe (g : zPg) (some pl0 : Int) (s0 n P D : Nat) (p : Int) (s : Nat) : Prop := ∃ q s' k, rLF g some pl0 s0 n (q, s') ∧ (q < (P : Int) ∨ (q = (P : Int) ∧ k < D)) ∧ pMay g q k ∧ p = pStep g q k ∧ s = s' ||| rAb some (pR g p)
theorem fGe_nx (hD : gDo g) {P : Nat} {p : Int} {s : Nat} : fGe g some pl0 s0 n P (gN g).toNat p s ↔ fGe g some pl0 s0 n (P + 1) 0 p s := by
  constructor
  · rintro ⟨q, s', k, h1, h2, h3⟩
    exact ⟨q, s', k, h1, Or.inl (by omega), h3⟩
  · rintro ⟨q, s', k, h1, h2, h3⟩
    have hk : (k : Int) < gN g := h3.1.1.1
    refine ⟨q, s', k, h1, ?_, h3⟩
    rcases h2 with z | z
    · by_cases e : q = (P : Int)
      · exact Or.inr ⟨e, by omega⟩
      · exact Or.inl (by omega)
    · exact absurd z.2 (Nat.not_lt_zero _)
theorem c_Mo_goesRound (hD : gDo (mem 123)) (hz : zI some) (hc : zpc 14 some ≤ 5) (hp0 : pOK (mem 123) pl0) (hs0 : s0 < 32) (hr : fRd mem (mem 123) some pl0 s0 n)
    (hQ : ∀ (m' : zMem) (v : Int), (v = 0 ∨ v = 1) → (v = 1 ↔ ∃ x, rLF (mem 123) some pl0 s0 (n + 1) x) → fRd m' (mem 123) some pl0 s0 (n + 1) → fFq mem m' → Q v m') : zC (d + 3) K_Mo_goesRound [(2, Int.ofNat 122), (0, some)] mem Q := by
  refine zC.rg fun _ hrg => ?_
  have hN := hD.1
  have rc := fun n => rLF_rc (pl0 := pl0) (some := some) hD hc hp0 hs0 n
  have e56 : ∀ m : zMem, fFq mem m → m 123 56 = gN (mem 123) := fun m hf => by rw [hf 123 (by omega)]; rfl
  generalize hg : mem 123 = g at *
  -- the last piece: what is fresh is now
  have cpy : ∀ (N i : Nat) (m : zMem) (v : Int), i + N = 570 → (v = 0 ∨ v = 1) → (v = 1 ↔ ∃ x, rLF g some pl0 s0 (n + 1) x) → (∀ p : Nat, p < 570 → ∀ s, s < 32 → (zB (m 132 p) s ↔ rLB g some pl0 s0 (n + 1) ((p : Int), s)) ∧ (zB (m 134 p) s ↔ rLF g some pl0 s0 (n + 1) ((p : Int), s))) → (∀ p : Nat, p < i → m 133 p = m 134 p) → fFq mem m → zG (d + 3) M_Mo_goesRound 154 [(2, Int.ofNat 122), (9, 0), (0, v), (0, (i : Int)), (9, 0), (9, 0), (9, 0)] [] m Q := by
    intro N
    induction N with
    | zero =>
      intro i m v hi hv hvi h1 h2 hf
      refine v_Mo_goesRound_154 ⟨fun c => ⟨hv, hQ m v hv hvi (fun p hp s hs => ?_) hf⟩, fun c => by omega⟩
      rw [h2 p (by omega)]
      exact h1 p hp s hs
    | succ N ih =>
      intro i m v hi hv hvi h1 h2 hf
      refine v_Mo_goesRound_154 ⟨fun c => by omega, fun c => ⟨by omega, by omega, fun m1 f1 x1 e1 => ?_⟩⟩
      rw [za (by omega)] at e1
      rw [e1]
      rw [Int.toNat_natCast] at f1
      have g1 : ∀ c, c ≠ 133 → m1 c = m c := fun c hc => by funext j; rw [f1, zup_k hc]
      refine ih (i + 1) m1 v (by omega) hv hvi (by rw [g1 132 (by omega), g1 134 (by omega)]; exact h1) (fun p hp => ?_) (fun c hc => by rw [g1 c (by omega), hf c hc])
      rw [g1 134 (by omega), f1, zup_at]
      by_cases e : p = i
      · rw [if_pos ⟨rfl, e⟩, e]
      · rw [if_neg (fun q => e q.2)]
        exact h2 p (by omega)
  -- the places
  have plcs : ∀ (N P : Nat) (m : zMem) (v : Int), P + N = 570 → (v = 0 ∨ v = 1) → (v = 1 ↔ ∃ p s, fGe g some pl0 s0 n P 0 p s ∧ ¬ rLB g some pl0 s0 n (p, s)) → (∀ p : Nat, p < 570 → ∀ s, s < 32 → (zB (m 132 p) s ↔ rLB g some pl0 s0 n ((p : Int), s) ∨ fGe g some pl0 s0 n P 0 p s) ∧ (zB (m 134 p) s ↔ fGe g some pl0 s0 n P 0 p s ∧ ¬ rLB g some pl0 s0 n ((p : Int), s))) → m 133 = mem 133 → fFq mem m → zrg m → zG (d + 3) M_Mo_goesRound 26 [(2, Int.ofNat 122), (0, some), (0, v), (0, (P : Int)), (9, 0), (9, 0), (9, 0)] [] m Q := by
    intro N
    induction N with
    | zero =>
      intro P m v hP hv hvi h1 h133 hf hrm
      have full : ∀ p s, fGe g some pl0 s0 n P 0 p s ↔ ∃ x, rLF g some pl0 s0 n x ∧ rSt g some x (p, s) := by
        intro p s
        constructor
        · rintro ⟨q, s', k, a1, a2, a3, a4, a5⟩
          exact ⟨(q, s'), a1, k, a3, by rw [a5, a4]⟩
        · rintro ⟨⟨q, s'⟩, a1, k, a2, a3⟩
          have e1 : p = pStep g q k := congrArg Prod.fst a3
          have e2 : s = s' ||| rAb some (pR g (pStep g q k)) := congrArg Prod.snd a3
          have := (rc n _ a1).1.1.2.1
          exact ⟨q, s', k, a1, Or.inl (by show q < (P : Int); have : q < 570 := this; omega), a2, e1, by rw [e1]; exact e2⟩
      refine v_Mo_goesRound_26 ⟨fun c => cpy 570 0 m v (by omega) hv ?_ (fun p hp s hs => ?_) (fun p hp => by omega) hf, fun c => by omega⟩
      · rw [hvi]
        constructor
        · rintro ⟨p, s, a1, a2⟩
          exact ⟨(p, s), lvF_s.mpr ⟨(full p s).mp a1, a2⟩⟩
        · rintro ⟨⟨p, s⟩, a1⟩
          exact ⟨p, s, (full p s).mpr a1.1, a1.2⟩
      · obtain ⟨b1, b2⟩ := h1 p hp s hs
        rw [b1, b2, full]
        exact ⟨lvB_s'.symm, Iff.rfl⟩
    | succ N ih =>
      intro P m v hP hv hvi h1 h133 hf hrm
      refine v_Mo_goesRound_26 ⟨fun c => by omega, fun c => ?_⟩
      -- the doors
      have doors : ∀ (N2 D : Nat) (m1 : zMem) (v1 : Int), D + N2 = (gN g).toNat → (v1 = 0 ∨ v1 = 1) → (v1 = 1 ↔ ∃ p s, fGe g some pl0 s0 n P D p s ∧ ¬ rLB g some pl0 s0 n (p, s)) → (∀ p : Nat, p < 570 → ∀ s, s < 32 → (zB (m1 132 p) s ↔ rLB g some pl0 s0 n ((p : Int), s) ∨ fGe g some pl0 s0 n P D p s) ∧ (zB (m1 134 p) s ↔ fGe g some pl0 s0 n P D p s ∧ ¬ rLB g some pl0 s0 n ((p : Int), s))) → m1 133 = mem 133 → fFq mem m1 → zrg m1 → zG (d + 3) M_Mo_goesRound 36 [(2, Int.ofNat 122), (0, some), (0, v1), (0, (P : Int)), (0, (D : Int)), (9, 0), (9, 0)] [] m1 Q := by
        intro N2
        induction N2 with
        | zero =>
          intro D m1 v1 hD2 hv1 hvi1 h11 h133 hf1 hrm1
          refine v_Mo_goesRound_36 (c_Mo_doorMany (d := d + 1) ?_)
          rw [e56 m1 hf1]
          refine ⟨fun c2 x2 e2 => ?_, fun c2 => by omega⟩
          rw [za (by omega)] at e2
          rw [e2]
          have hDe : D = (gN g).toNat := by omega
          rw [hDe] at hvi1 h11
          refine ih (P + 1) m1 v1 (by omega) hv1 ?_ (fun p hp s hs => ?_) h133 hf1 hrm1
          · rw [hvi1]
            constructor
            · rintro ⟨p, s, a1, a2⟩; exact ⟨p, s, (fGe_nx hD).mp a1, a2⟩
            · rintro ⟨p, s, a1, a2⟩; exact ⟨p, s, (fGe_nx hD).mpr a1, a2⟩
          · rw [← fGe_nx hD]
            exact h11 p hp s hs
        | succ N2 ih2 =>
          intro D m1 v1 hD2 hv1 hvi1 h11 h133 hf1 hrm1
          have e31 : m1 123 = g := by rw [hf1 123 (by omega)]; exact hg
          have hD14 : (D : Int) < gN g := by omega
          refine v_Mo_goesRound_36 (c_Mo_doorMany (d := d + 1) ?_)
          rw [e56 m1 hf1]
          refine ⟨fun c2 => by omega, fun c2 => ⟨by omega, ?_⟩⟩
          rw [Int.toNat_natCast, h133]
          have hzn : zI (mem 133 P) := zrg_i hrg (by decide) P
          have hb133 : ∀ s, s < 32 → (zB (mem 133 P) s ↔ rLF g some pl0 s0 n ((P : Int), s)) := fun s hs => (hr P (by omega) s hs).2
          refine ⟨fun c3 x3 e3 => ?_, fun c3 => ?_⟩
          · -- nobody is there
            have hno : ∀ s, ¬ rLF g some pl0 s0 n ((P : Int), s) := by
              intro s hh
              have hs := (rc n _ hh).2
              have := (hb133 s hs).mpr hh
              rw [c3] at this
              exact zB_0 s this
            rw [za (by omega)] at e3
            rw [e3]
            have hsame : ∀ p s, fGe g some pl0 s0 n (P + 1) 0 p s ↔ fGe g some pl0 s0 n P D p s := by
              intro p s
              constructor
              · rintro ⟨q, s', k, a1, a2, a3⟩
                refine ⟨q, s', k, a1, ?_, a3⟩
                rcases a2 with z | z
                · by_cases e : q = (P : Int)
                  · rw [e] at a1; exact absurd a1 (hno s')
                  · exact Or.inl (by omega)
                · exact absurd z.2 (Nat.not_lt_zero _)
              · rintro ⟨q, s', k, a1, a2, a3⟩
                exact ⟨q, s', k, a1, Or.inl (by omega), a3⟩
            refine ih (P + 1) m1 v1 (by omega) hv1 ?_ (fun p hp s hs => by rw [hsame]; exact h11 p hp s hs) h133 hf1 hrm1
            rw [hvi1]
            constructor
            · rintro ⟨p, s, a1, a2⟩; exact ⟨p, s, (hsame p s).mpr a1, a2⟩
            · rintro ⟨p, s, a1, a2⟩; exact ⟨p, s, (hsame p s).mp a1, a2⟩
          · -- somebody is there
            have hex : ∃ s, s < 32 ∧ rLF g some pl0 s0 n ((P : Int), s) := by
              refine Classical.byContradiction fun hno => c3 ?_
              rw [zB_z hzn]
              intro s hs z
              exact hno ⟨s, hs, (hb133 s hs).mp z⟩
            obtain ⟨sx, -, hsx⟩ := hex
            have hpP : pOK g (P : Int) := (rc n _ hsx).1.1
            have skip : ¬ pMay g (P : Int) D → ∀ x5 : Int, x5 = zadd (D : Int) 1 → zG (d + 3) M_Mo_goesRound 36 [(2, Int.ofNat 122), (0, some), (0, v1), (0, (P : Int)), (0, x5), (9, 0), (9, 0)] [] m1 Q := by
              intro hm x5 e5
              rw [za (by omega)] at e5
              rw [e5]
              have hsame : ∀ p s, fGe g some pl0 s0 n P (D + 1) p s ↔ fGe g some pl0 s0 n P D p s := by
                intro p s
                constructor
                · rintro ⟨q, s', k, a1, a2, a3, a4⟩
                  refine ⟨q, s', k, a1, ?_, a3, a4⟩
                  rcases a2 with z | ⟨z1, z2⟩
                  · exact Or.inl z
                  · by_cases e : k = D
                    · rw [z1, e] at a3; exact absurd a3 hm
                    · exact Or.inr ⟨z1, by omega⟩
                · rintro ⟨q, s', k, a1, a2, a3⟩
                  refine ⟨q, s', k, a1, ?_, a3⟩
                  rcases a2 with z | ⟨z1, z2⟩
                  · exact Or.inl z
                  · exact Or.inr ⟨z1, by omega⟩
              refine ih2 (D + 1) m1 v1 (by omega) hv1 ?_ (fun p hp s hs => by rw [hsame]; exact h11 p hp s hs) h133 hf1 hrm1
              rw [hvi1]
              constructor
              · rintro ⟨p, s, a1, a2⟩; exact ⟨p, s, (hsame p s).mpr a1, a2⟩
              · rintro ⟨p, s, a1, a2⟩; exact ⟨p, s, (hsame p s).mp a1, a2⟩
            refine c_Mo_stepped (d := d) (by rw [e31]; exact hpP) (by rw [e31]; exact hD) (by rw [e31]; omega) (fun hm => ?_) (fun hm => ⟨fun _ => skip (by rw [e31, Int.toNat_natCast] at hm; exact hm), fun q => absurd rfl q⟩)
            rw [e31, Int.toNat_natCast] at hm ⊢
            obtain ⟨s1, s2, s3, s4, s5⟩ := pStep_ok hD hpP (d := D) hD14
            have hrb := pR_b hD s1
            refine ⟨fun q => by omega, fun _ => ⟨by omega, ?_⟩⟩
            refine c_Mo_roomAt (d := d + 1) ⟨s1.1, s1.2.1⟩ ?_
            rw [e31]
            refine c_Mo_askedBit (d := d + 1) hz hrb ?_
            rw [h133]
            refine c_Mo_withRoom (d := d + 1) hzn (rAb_lt hc hrb) (fun y hy hyb => ⟨by omega, fun x9 e9 => ⟨by omega, by omega, fun m6 f6 => ⟨by omega, by omega, fun m7 f7 => ?_⟩⟩⟩)
            have hT : (pStep g (P : Int) D).toNat < 570 := by omega
            have hTe : (((pStep g (P : Int) D).toNat : Nat) : Int) = pStep g (P : Int) D := by omega
            have hz132 : zI (m1 132 (pStep g (P : Int) D).toNat) := zrg_i hrm1 (by decide) _
            have h9z : zI x9 := e9 ▸ zand_I _ _
            have hyb2 : ∀ s, s < 32 → (zB y s ↔ ∃ s', rLF g some pl0 s0 n ((P : Int), s') ∧ s = s' ||| rAb some (pR g (pStep g (P : Int) D))) := by
              intro s hs
              rw [hyb s hs]
              constructor
              · rintro ⟨s', a1, a2, a3⟩; exact ⟨s', (hb133 s' a1).mp a2, a3.symm⟩
              · rintro ⟨s', a1, a2⟩
                have := (rc n _ a1).2
                exact ⟨s', this, (hb133 s' this).mpr a1, a2.symm⟩
            have hge : ∀ p s, s < 32 → (fGe g some pl0 s0 n P (D + 1) p s ↔ fGe g some pl0 s0 n P D p s ∨ (p = pStep g (P : Int) D ∧ zB y s)) := by
              intro p s hs
              constructor
              · rintro ⟨q, s', k, a1, a2, a3, a4, a5⟩
                rcases a2 with z | ⟨z1, z2⟩
                · exact Or.inl ⟨q, s', k, a1, Or.inl z, a3, a4, a5⟩
                · by_cases e : k = D
                  · right
                    rw [z1, e] at a4
                    rw [z1] at a1
                    rw [a4] at a5
                    exact ⟨a4, (hyb2 s hs).mpr ⟨s', a1, a5⟩⟩
                  · exact Or.inl ⟨q, s', k, a1, Or.inr ⟨z1, by omega⟩, a3, a4, a5⟩
              · rintro (⟨q, s', k, a1, a2, a3⟩ | ⟨a1, a2⟩)
                · refine ⟨q, s', k, a1, ?_, a3⟩
                  rcases a2 with z | ⟨z1, z2⟩
                  · exact Or.inl z
                  · exact Or.inr ⟨z1, by omega⟩
                · obtain ⟨s', b1, b2⟩ := (hyb2 s hs).mp a2
                  exact ⟨(P : Int), s', D, b1, Or.inr ⟨rfl, by omega⟩, hm, a1, by rw [a1]; exact b2⟩
            have h9b : ∀ s, s < 32 → (zB x9 s ↔ zB y s ∧ ¬ (rLB g some pl0 s0 n (pStep g (P : Int) D, s) ∨ fGe g some pl0 s0 n P D (pStep g (P : Int) D) s)) := by
              intro s hs
              have := (h11 _ hT s hs).1
              rw [hTe] at this
              rw [e9, zB_and, zB_not _ hs, this]
            have e132 : ∀ p, m7 132 p = if p = (pStep g (P : Int) D).toNat then zor (m1 132 (pStep g (P : Int) D).toNat) x9 else m1 132 p := fun p => by
              rw [f7, zup_k (by omega), f6, zup_at]
              by_cases e : p = (pStep g (P : Int) D).toNat
              · rw [if_pos ⟨rfl, e⟩, if_pos e]
              · rw [if_neg (fun q => e q.2), if_neg e]
            have e134 : ∀ p, m7 134 p = if p = (pStep g (P : Int) D).toNat then zor (m1 134 (pStep g (P : Int) D).toNat) x9 else m1 134 p := fun p => by
              rw [f7, zup_at, f6, zup_k (by omega), zup_k (by omega)]
              by_cases e : p = (pStep g (P : Int) D).toNat
              · rw [if_pos ⟨rfl, e⟩, if_pos e]
              · rw [if_neg (fun q => e q.2), if_neg e]
            have bits : ∀ p : Nat, p < 570 → ∀ s, s < 32 → (zB (m7 132 p) s ↔ rLB g some pl0 s0 n ((p : Int), s) ∨ fGe g some pl0 s0 n P (D + 1) p s) ∧ (zB (m7 134 p) s ↔ fGe g some pl0 s0 n P (D + 1) p s ∧ ¬ rLB g some pl0 s0 n ((p : Int), s)) := by
              intro p hp s hs
              obtain ⟨b1, b2⟩ := h11 p hp s hs
              rw [e132, e134, hge p s hs]
              by_cases e : p = (pStep g (P : Int) D).toNat
              · rw [if_pos e, if_pos e, zB_or, zB_or, ← e, b1, b2, h9b s hs]
                have hpe : (p : Int) = pStep g (P : Int) D := by omega
                rw [← hpe]
                constructor
                · constructor
                  · rintro ((z | z) | ⟨z, -⟩)
                    · exact Or.inl z
                    · exact Or.inr (Or.inl z)
                    · exact Or.inr (Or.inr ⟨rfl, z⟩)
                  · rintro (z | z | ⟨-, z⟩)
                    · exact Or.inl (Or.inl z)
                    · exact Or.inl (Or.inr z)
                    · by_cases y2 : rLB g some pl0 s0 n ((p : Int), s) ∨ fGe g some pl0 s0 n P D p s
                      · exact Or.inl y2
                      · exact Or.inr ⟨z, y2⟩
                · constructor
                  · rintro (⟨z1, z2⟩ | ⟨z1, z2⟩)
                    · exact ⟨Or.inl z1, z2⟩
                    · exact ⟨Or.inr ⟨rfl, z1⟩, fun y2 => z2 (Or.inl y2)⟩
                  · rintro ⟨z | ⟨-, z⟩, y2⟩
                    · exact Or.inl ⟨z, y2⟩
                    · by_cases y3 : fGe g some pl0 s0 n P D p s
                      · exact Or.inl ⟨y3, y2⟩
                      · exact Or.inr ⟨z, fun y4 => y4.elim y2 y3⟩
              · rw [if_neg e, if_neg e, b1, b2]
                have hpe : ¬ (p : Int) = pStep g (P : Int) D := by omega
                constructor
                · constructor
                  · rintro (z | z)
                    · exact Or.inl z
                    · exact Or.inr (Or.inl z)
                  · rintro (z | z | z)
                    · exact Or.inl z
                    · exact Or.inr z
                    · exact absurd z.1 hpe
                · constructor
                  · rintro ⟨z1, z2⟩; exact ⟨Or.inl z1, z2⟩
                  · rintro ⟨z1 | z1, z2⟩
                    · exact ⟨z1, z2⟩
                    · exact absurd z1.1 hpe
            have g7 : ∀ c, c ≠ 132 → c ≠ 134 → m7 c = m1 c := fun c c1 c2 => by funext j; rw [f7, zup_k c2, f6, zup_k c1]
            have hrm7 : zrg m7 := by
              rw [f7, f6]
              exact zup_rg (zup_rg hrm1 (fun q => absurd q (by decide)) (fun _ => zor_I _ _)) (fun q => absurd q (by decide)) (fun _ => zor_I _ _)
            have flag : (∃ p s, fGe g some pl0 s0 n P (D + 1) p s ∧ ¬ rLB g some pl0 s0 n (p, s)) ↔ v1 = 1 ∨ x9 ≠ 0 := by
              rw [hvi1]
              constructor
              · rintro ⟨p, s, a1, a2⟩
                have hs : s < 32 := by
                  obtain ⟨q, s', k, b1, b2, b3, b4, b5⟩ := a1
                  have c1 := rc n _ b1
                  rw [b5, b4]
                  exact lor_lt c1.2 (rAb_lt hc (pR_b hD (pStep_ok hD c1.1.1 (d := k) b3.1.1).1))
                by_cases z : fGe g some pl0 s0 n P D p s
                · exact Or.inl ⟨p, s, z, a2⟩
                · right
                  rcases (hge p s hs).mp a1 with y2 | ⟨y2, y3⟩
                  · exact absurd y2 z
                  · intro h0
                    rw [zB_z h9z] at h0
                    refine h0 s hs ((h9b s hs).mpr ⟨y3, ?_⟩)
                    rw [← y2]
                    exact fun y4 => y4.elim a2 z
              · rintro (⟨p, s, a1, a2⟩ | z)
                · obtain ⟨q, s', k, b1, b2, b3⟩ := a1
                  refine ⟨p, s, ⟨q, s', k, b1, ?_, b3⟩, a2⟩
                  rcases b2 with z | ⟨z1, z2⟩
                  · exact Or.inl z
                  · exact Or.inr ⟨z1, by omega⟩
                · refine Classical.byContradiction fun hno => z ?_
                  rw [zB_z h9z]
                  intro s hs q
                  obtain ⟨y1, y2⟩ := (h9b s hs).mp q
                  exact hno ⟨pStep g (P : Int) D, s, (hge _ s hs).mpr (Or.inr ⟨rfl, y1⟩), fun y3 => y2 (Or.inl y3)⟩
            have nx : ∀ v2 : Int, (v2 = 0 ∨ v2 = 1) → (v2 = 1 ↔ v1 = 1 ∨ x9 ≠ 0) → ∀ x5 : Int, x5 = zadd (D : Int) 1 → zG (d + 3) M_Mo_goesRound 36 [(2, Int.ofNat 122), (0, some), (0, v2), (0, (P : Int)), (0, x5), (9, 0), (9, 0)] [] m7 Q := by
              intro v2 hv2 hvi2 x5 e5
              rw [za (by omega)] at e5
              rw [e5]
              exact ih2 (D + 1) m7 v2 (by omega) hv2 (by rw [hvi2, flag]) bits (by rw [g7 133 (by omega) (by omega), h133]) (fun c hc => by rw [g7 c (by omega) (by omega), hf1 c hc]) hrm7
            refine ⟨fun z => nx 1 (Or.inr rfl) ⟨fun _ => Or.inl (by omega), fun _ => rfl⟩, fun z => ⟨fun z2 => nx 0 (Or.inl rfl) ⟨fun q => absurd q (by decide), fun q => by omega⟩, fun z2 => nx 1 (Or.inr rfl) ⟨fun _ => Or.inr z2, fun _ => rfl⟩⟩⟩
      refine doors (gN g).toNat 0 m v (by omega) hv hvi h1 h133 hf hrm
  -- the row of what is fresh is cleared
  have clr : ∀ (N i : Nat) (m : zMem), i + N = 570 → (∀ p, p < i → m 134 p = 0) → (∀ c, c ≠ 134 → m c = mem c) → zrg m → zG (d + 3) M_Mo_goesRound 4 [(2, Int.ofNat 122), (0, some), (0, 0), (0, (i : Int)), (9, 0), (9, 0), (9, 0)] [] m Q := by
    intro N
    induction N with
    | zero =>
      intro i m hi h1 hf hrm
      have hno : ∀ p s, ¬ fGe g some pl0 s0 n 0 0 p s := by
        rintro p s ⟨q, s', k, b1, b2, -⟩
        have := (rc n _ b1).1.1.1
        rcases b2 with z | z
        · have : 0 ≤ q := this
          omega
        · exact absurd z.2 (Nat.not_lt_zero _)
      refine v_Mo_goesRound_4 ⟨fun c => plcs 570 0 m 0 (by omega) (Or.inl rfl) ⟨fun q => absurd q (by decide), fun ⟨p, s, a1, _⟩ => absurd a1 (hno p s)⟩ (fun p hp s hs => ⟨?_, ?_⟩) (hf 133 (by omega)) (fun c hc => hf c (by omega)) hrm, fun c => by omega⟩
      · rw [hf 132 (by omega), (hr p hp s hs).1]
        exact ⟨Or.inl, fun q => q.elim id (fun z => absurd z (hno _ _))⟩
      · rw [h1 p (by omega)]
        exact ⟨fun q => absurd q (zB_0 s), fun q => absurd q.1 (hno _ _)⟩
    | succ N ih =>
      intro i m hi h1 hf hrm
      refine v_Mo_goesRound_4 ⟨fun c => by omega, fun c => ⟨by omega, fun m1 f1 x1 e1 => ?_⟩⟩
      rw [za (by omega)] at e1
      rw [e1]
      rw [Int.toNat_natCast] at f1
      refine ih (i + 1) m1 (by omega) (fun p hp => ?_) (fun c hc => by rw [← hf c hc]; funext j; rw [f1, zup_k hc]) (by rw [f1]; exact zup_rg hrm (fun q => absurd q (by decide)) (fun _ => zI_0))
      rw [f1, zup_at]
      by_cases e : p = i
      · rw [if_pos ⟨rfl, e⟩]
      · rw [if_neg (fun q => e q.2)]
        exact h1 p (by omega)
  exact v_Mo_goesRound (clr 570 0 mem (by omega) (fun p hp => by omega) (fun _ _ => rfl) hrg)
end
