section
/-! The class Two: cup, and the minutes. -/
variable {d w u : Nat} {mem m m' m2 : zMem} {Q : Int → zMem → Prop} {V V' : Nat → Prop} {rmo : Nat → Int} {nx : Nat → Nat → Prop} {X X' : Prop} {B B' Nw Nw' Fr Fr' : Nat × Nat × Nat → Prop} {s0 T : Nat × Nat × Nat → Prop} {stp : Nat × Nat × Nat → Nat × Nat × Nat → Prop}
theorem c_Tw_cupStep {l f k : Nat} {c0 : Int} (hk2 : k = 2) (hc0 : 0 ≤ c0 ∧ c0 < 10) (hne : ∀ s, V s → ∃ t, nx s t) (hr : wRep mem X B Nw Fr) (hp : wPi mem V rmo nx) (hcl : ∀ s t, V s → nx s t → V t) (hFV : ∀ x, Fr x → x.1 < k ∧ V x.2.1 ∧ V x.2.2) (hl : l < k) (hVf : V f) (hso : ∃ s, Fr (l, f, s))
    (hQ1 : ∀ m', wFr mem m' → (∃ x y, Fr x ∧ stV rmo nx x y ∧ tV' rmo c0 y) → Q 1 m') (hQ0 : ∀ m', wFr mem m' → wRep m' X B (fun y => Nw y ∨ ∃ s, Fr (l, f, s) ∧ stV rmo nx (l, f, s) y) Fr → (∀ s y, Fr (l, f, s) → stV rmo nx (l, f, s) y → ¬ tV' rmo c0 y) → Q 0 m') : zC (d + 2) K_Tw_cupStep [(2, Int.ofNat 90), (0, c0), (0, (l : Int)), (0, (f : Int))] mem Q := by
  refine zC.rg fun _ hrg => ?_
  have hf := (hp.1 f hVf).1
  have hl5 : l < 5 := by omega
  obtain ⟨z1, z2, z3, z4, z5, z6, -⟩ := zTw_rt (t := l) hl5
  have hV30 : ∀ s, V s → s < 30 := fun s hs => (hp.1 s hs).1
  have hfr : ∀ s, s < 32 → (zB (mem (101 + l) f) s ↔ Fr (l, f, s)) := fun s hs => (hr.1 l f s hl5 hf hs).2.2
  have hz : zI (mem (101 + l) f) := zrg_i hrg (by rw [z5]; decide) _
  refine v_Tw_cupStep ⟨by omega, by omega, ?_⟩
  rw [Int.toNat_natCast, Int.toNat_natCast, z2]
  refine c_Tw_nextOf (d := d) hp hz (fun s hs hb => (hFV _ ((hfr s hs).mp hb)).2.2) (fun v hvz hv => ?_)
  have hv' : ∀ t, t < 32 → (zB v t ↔ ∃ s, Fr (l, f, s) ∧ nx s t) := by
    intro t ht
    rw [hv t ht]
    constructor
    · rintro ⟨s, s1, s2, s3⟩; exact ⟨s, (hfr s s1).mp s2, s3⟩
    · rintro ⟨s, s1, s2⟩
      have hs : s < 32 := by have := hV30 s (hFV _ s1).2.2; omega
      exact ⟨s, hs, (hfr s hs).mpr s1, s2⟩
  have hvV : ∀ t, t < 32 → zB v t → V t := by
    intro t ht hb
    obtain ⟨s, s1, s2⟩ := (hv' t ht).mp hb
    exact hcl s t (hFV _ s1).2.2 s2
  have loop : ∀ (n i : Nat) (m : zMem), i + n = 30 → wFr mem m → wRep m X B (fun y => Nw y ∨ (y.2.1 < i ∧ ∃ s, Fr (l, f, s) ∧ stV rmo nx (l, f, s) y)) Fr → (∀ s y, y.2.1 < i → Fr (l, f, s) → stV rmo nx (l, f, s) y → ¬ tV' rmo c0 y) → zG (d + 2) M_Tw_cupStep 17 [(2, Int.ofNat 90), (0, c0), (0, (l : Int)), (0, (f : Int)), (0, v), (0, (i : Int))] [] m Q := by
    intro n
    induction n with
    | zero =>
      intro i m hi hfm hrm hno
      have hlt : ∀ y : Nat × Nat × Nat, nx f y.2.1 → y.2.1 < i := fun y hy => by
        have := hV30 _ (hcl f _ hVf hy)
        omega
      refine v_Tw_cupStep_17 ⟨fun c => hQ0 m hfm (hrm.cg (fun l' f' s' h1 h2 h3 => ?_)) (fun s y h1 h2 => hno s y (hlt y h2.1) h1 h2), fun c => by omega⟩
      constructor
      · rintro (q | ⟨s, s1, s2⟩)
        · exact Or.inl q
        · exact Or.inr ⟨hlt (l', f', s') s2.1, s, s1, s2⟩
      · rintro (q | ⟨q, s, s1, s2⟩)
        · exact Or.inl q
        · exact Or.inr ⟨s, s1, s2⟩
    | succ n ih =>
      intro i m hi hfm hrm hno
      have hpm := hp.wf hfm
      obtain ⟨p1, p2, p3, p4⟩ := hpm.1 f hVf
      refine zG.rg fun _ _ hrgm => ?_
      have hz92 : zI (m 92 f) := zrg_i hrgm (by decide) _
      refine v_Tw_cupStep_17 ⟨fun c => by omega, fun c => ⟨by omega, ?_⟩⟩
      rw [Int.toNat_natCast, Int.toNat_natCast]
      refine ⟨fun c1 => ?_, fun c1 x10 e10 => ?_⟩
      · rw [zB_ne hz92 (by omega) (by omega), Int.toNat_natCast, p4 i (by omega)] at c1
        have hVi := hcl f i hVf c1
        obtain ⟨q1, q2, q3, q4⟩ := hpm.1 i hVi
        have hin : ∀ r : Nat, r < 10 → ∀ t, t < 32 → (zB (zand v (m 93 r)) t ↔ (∃ s, Fr (l, f, s) ∧ nx s t) ∧ rmo t = r) := by
          intro r hr' t ht
          rw [zB_and, hpm.2 r hr' t ht, ← hv' t ht]
          constructor
          · rintro ⟨b1, b2, b3⟩; exact ⟨b1, b3⟩
          · rintro ⟨b1, b2⟩; exact ⟨b1, hvV t ht b1, b2⟩
        have puts : (∀ s t, Fr (l, f, s) → nx s t → (l = 0 → rmo i ≠ c0) ∧ (l = 1 → rmo t ≠ c0)) → zC (d + 1) K_Tw_put [(2, Int.ofNat 90), (0, (l : Int)), (0, (i : Int)), (0, v)] m (fun r1 m1 => ((0 ≤ (i : Int) ∧ (i : Int) < 30) ∧ ((0 ≤ m1 91 (i : Int).toNat ∧ m1 91 (i : Int).toNat < 10) ∧ zC (d + 1) K_Tw_put [(2, Int.ofNat 90), (0, zsub 1 (l : Int)), (0, (i : Int)), (0, zand v (m1 93 (m1 91 (i : Int).toNat).toNat))] m1 (fun r2 m2 => ∀ x3 : Int, x3 = zadd i 1 → zG (d + 2) M_Tw_cupStep 17 [(2, Int.ofNat 90), (0, c0), (0, (l : Int)), (0, (f : Int)), (0, v), (0, x3)] [] m2 Q)))) := by
          intro hnt
          refine c_Tw_put (d := d) hrm (by omega) (fun m1 hr1 hf1 => ⟨by omega, ?_⟩)
          have e91 : m1 91 = m 91 := hf1.1 91 (by omega)
          have e93 : m1 93 = m 93 := hf1.1 93 (by omega)
          rw [Int.toNat_natCast, e91, e93, q2, zs (by omega)]
          refine ⟨q3, ?_⟩
          rw [show (1 : Int) - (l : Int) = ((1 - l : Nat) : Int) by omega]
          refine c_Tw_put (d := d) (l := 1 - l) hr1 (by omega) (fun m2 hr2 hf2 x4 e4 => ?_)
          rw [za (by omega)] at e4
          rw [e4]
          refine ih (i + 1) m2 (by omega) ((hfm.trans hf1).trans hf2) (hr2.cg (fun l' f' s' h1 h2 h3 => ?_)) ?_
          · have hI := hin (rmo i).toNat (by omega) s' h3
            rw [show (((rmo i).toNat : Nat) : Int) = rmo i by omega] at hI
            constructor
            · rintro (q | ⟨q, s, s1, s3, s4, s5⟩)
              · exact Or.inl (Or.inl (Or.inl q))
              · by_cases e : f' = i
                · rw [e] at s3 s5
                  rcases s5 with s5 | ⟨s5, s6⟩
                  · exact Or.inl (Or.inr ⟨s5, e, (hv' s' h3).mpr ⟨s, s1, s4⟩⟩)
                  · have s5' : rmo i = rmo s' := s5
                    exact Or.inr ⟨s6, e, hI.mpr ⟨⟨s, s1, s4⟩, s5'.symm⟩⟩
                · have q' : f' < i + 1 := q
                  exact Or.inl (Or.inl (Or.inr ⟨show f' < i by omega, s, s1, s3, s4, s5⟩))
            · rintro ((q | ⟨q, b2, b3⟩) | ⟨b1, b2, b3⟩)
              · rcases q with q | ⟨q, q'⟩
                · exact Or.inl q
                · have q2 : f' < i := q
                  exact Or.inr ⟨show f' < i + 1 by omega, q'⟩
              · obtain ⟨s, s1, s2⟩ := (hv' s' h3).mp b3
                have b2' : f' = i := b2
                subst b2'
                exact Or.inr ⟨Nat.lt_succ_self _, s, s1, c1, s2, Or.inl q⟩
              · obtain ⟨⟨s, s1, s2⟩, s3⟩ := hI.mp b3
                have b2' : f' = i := b2
                subst b2'
                exact Or.inr ⟨Nat.lt_succ_self _, s, s1, c1, s2, Or.inr ⟨s3.symm, b1⟩⟩
          · intro s y hy h1 h2
            by_cases e : y.2.1 = i
            · obtain ⟨g2, g3, g4⟩ := id h2
              have hn := hnt s y.2.2 h1 g3
              unfold tV'
              rw [e] at g4
              have g4' : y.1 = l ∨ (rmo i = rmo y.2.2 ∧ y.1 = 1 - l) := g4
              have hl2 : l = 0 ∨ l = 1 := by omega
              rcases hl2 with e0 | e0
              · have := hn.1 e0
                split
                · rw [e]; exact this
                · rename_i z
                  rcases g4' with g | g
                  · exact absurd (by omega) z
                  · rw [← g.1]; exact this
              · have := hn.2 e0
                split
                · rename_i z
                  rcases g4' with g | g
                  · omega
                  · rw [e, g.1]; exact this
                · exact this
            · exact hno s y (by omega) h1 h2
        refine ⟨fun c2 => ⟨hc0, fun c3 => ?_, fun c3 => hQ1 m hfm ?_⟩, fun c2 => ⟨by omega, ?_⟩⟩
        · refine puts (fun s t h1 h2 => ⟨fun z => by omega, fun _ hz' => ?_⟩)
          have ht : t < 32 := by have := hV30 t (hcl s t (hFV _ h1).2.2 h2); omega
          exact (zB_z (zand_I _ _)).mp c3 t ht ((hin c0.toNat (by omega) t ht).mpr ⟨⟨s, h1, h2⟩, by omega⟩)
        · obtain ⟨t, ht, hb⟩ : ∃ t, t < 32 ∧ zB (zand v (m 93 c0.toNat)) t := Classical.byContradiction fun q => c3 ((zB_z (zand_I _ _)).mpr (fun s hs q' => q ⟨s, hs, q'⟩))
          obtain ⟨⟨s, s1, s2⟩, s3⟩ := (hin c0.toNat (by omega) t ht).mp hb
          refine ⟨(l, f, s), (l, i, t), s1, ⟨c1, s2, Or.inl rfl⟩, ?_⟩
          show rmo (if l = 0 then i else t) = c0
          rw [if_neg (by omega)]
          omega
        · rw [q2]
          refine ⟨fun c3 => ?_, fun c3 => hQ1 m hfm ?_⟩
          · exact puts (fun s t h1 h2 => ⟨fun _ => c3, fun z => by omega⟩)
          · obtain ⟨s, s1⟩ := hso
            obtain ⟨t, s2⟩ := hne s (hFV _ s1).2.2
            refine ⟨(l, f, s), (l, i, t), s1, ⟨c1, s2, Or.inl rfl⟩, ?_⟩
            show rmo (if l = 0 then i else t) = c0
            rw [if_pos (by omega)]
            exact c3
      · rw [zB_test hz92 (by omega) (by omega), Int.toNat_natCast, p4 i (by omega)] at c1
        rw [za (by omega)] at e10
        rw [e10]
        have hne : ∀ y : Nat × Nat × Nat, y.2.1 < i + 1 → nx f y.2.1 → y.2.1 < i := fun y h1 h2 => by
          by_cases e : y.2.1 = i
          · rw [e] at h2; exact absurd h2 c1
          · omega
        refine ih (i + 1) m (by omega) hfm (hrm.cg (fun l' f' s' h1 h2 h3 => ?_)) (fun s y hy h1 h2 => hno s y (hne y hy h2.1) h1 h2)
        constructor
        · rintro (q | ⟨q, s, s1, s2⟩)
          · exact Or.inl q
          · exact Or.inr ⟨hne (l', f', s') q s2.1, s, s1, s2⟩
        · rintro (q | ⟨q, s, s1, s2⟩)
          · exact Or.inl q
          · have q2 : f' < i := q
            exact Or.inr ⟨show f' < i + 1 by omega, s, s1, s2⟩
  exact loop 30 0 mem (by omega) wFr.refl (hr.cg (fun l' f' s' h1 h2 h3 => ⟨fun q => q.elim id (fun z => absurd z.1 (Nat.not_lt_zero _)), Or.inl⟩)) (fun s y hy => absurd hy (Nat.not_lt_zero _))
theorem c_Tw_cupMinute {k : Nat} {c0 : Int} (hk2 : k = 2) (hc0 : 0 ≤ c0 ∧ c0 < 10) (hne : ∀ s, V s → ∃ t, nx s t) (hr : wRep mem X B (fun _ => False) Fr) (hp : wPi mem V rmo nx) (hcl : ∀ s t, V s → nx s t → V t) (hFV : ∀ x, Fr x → x.1 < k ∧ V x.2.1 ∧ V x.2.2) 
    (hQ1 : ∀ m', wFr mem m' → (∃ x y, Fr x ∧ stV rmo nx x y ∧ tV' rmo c0 y) → Q 1 m') (hQ0 : ∀ m', wFr mem m' → wRep m' X B (fun y => ∃ x, Fr x ∧ stV rmo nx x y) Fr → (∀ x y, Fr x → stV rmo nx x y → ¬ tV' rmo c0 y) → Q 0 m') : zC (d + 3) K_Tw_cupMinute [(2, Int.ofNat 90), (0, c0)] mem Q := by
  have inner : ∀ (i : Nat), i < k → (∀ m : zMem, wFr mem m → wRep m X B (fun y => ∃ x, x.1 < i + 1 ∧ Fr x ∧ stV rmo nx x y) Fr → (∀ x y, x.1 < i + 1 → Fr x → stV rmo nx x y → ¬ tV' rmo c0 y) → zG (d + 3) M_Tw_cupMinute 2 [(2, Int.ofNat 90), (0, c0), (0, ((i + 1 : Nat) : Int)), (9, 0)] [] m Q) → ∀ (n j : Nat) (m : zMem), j + n = 30 → wFr mem m → wRep m X B (fun y => ∃ x, (x.1 < i ∨ (x.1 = i ∧ x.2.1 < j)) ∧ Fr x ∧ stV rmo nx x y) Fr → (∀ x y, (x.1 < i ∨ (x.1 = i ∧ x.2.1 < j)) → Fr x → stV rmo nx x y → ¬ tV' rmo c0 y) → zG (d + 3) M_Tw_cupMinute 9 [(2, Int.ofNat 90), (0, c0), (0, (i : Int)), (0, (j : Int))] [] m Q := by
    intro i hik hnx n
    induction n with
    | zero =>
      intro j m hj hfm hrm hno
      have hV30 : ∀ x, Fr x → x.2.1 < 30 := fun x hx => (hp.1 _ (hFV x hx).2.1).1
      refine v_Tw_cupMinute_9 ⟨fun c x1 e1 => ?_, fun c => by omega⟩
      rw [za (by omega)] at e1
      rw [e1]
      refine hnx m hfm (hrm.cg (fun l' f' s' h1 h2 h3 => ?_)) (fun x y hx h1 h2 => hno x y (by have := hV30 x h1; omega) h1 h2)
      constructor
      · rintro ⟨x, x1, x2, x3⟩; exact ⟨x, by have := hV30 x x2; omega, x2, x3⟩
      · rintro ⟨x, x1, x2, x3⟩; exact ⟨x, by omega, x2, x3⟩
    | succ n ih =>
      intro j m hj hfm hrm hno
      obtain ⟨z1, z2, z3, z4, z5, z6, -⟩ := zTw_rt (t := i) (by omega)
      refine zG.rg fun _ _ hrg => ?_
      have hz : zI (m (101 + i) j) := zrg_i hrg (by rw [z5]; decide) _
      have hfr : ∀ s, s < 32 → (zB (m (101 + i) j) s ↔ Fr (i, j, s)) := fun s hs => (hrm.1 i j s (by omega) (by omega) hs).2.2
      have hsp : ∀ x : Nat × Nat × Nat, (x.1 < i ∨ (x.1 = i ∧ x.2.1 < j + 1)) → (x.1 < i ∨ (x.1 = i ∧ x.2.1 < j)) ∨ ∃ s, x = (i, j, s) := by
        rintro ⟨x1, x2, x3⟩ h
        have h' : x1 < i ∨ (x1 = i ∧ x2 < j + 1) := h
        by_cases e : x1 = i ∧ x2 = j
        · exact Or.inr ⟨x3, by rw [e.1, e.2]⟩
        · left
          show x1 < i ∨ (x1 = i ∧ x2 < j)
          omega
      refine v_Tw_cupMinute_9 ⟨fun c => by omega, fun c => ⟨by omega, by omega, ?_⟩⟩
      rw [Int.toNat_natCast, Int.toNat_natCast, z2]
      refine ⟨fun c1 x2 e2 => ?_, fun c1 => ?_⟩
      · rw [za (by omega)] at e2
        rw [e2]
        have hem : ∀ s, ¬ Fr (i, j, s) := fun s hs => by
          have h32 : s < 32 := by have := (hp.1 _ (hFV _ hs).2.2).1; show s < 32; exact Nat.lt_trans this (by decide)
          exact (zB_z hz).mp c1 s h32 ((hfr s h32).mpr hs)
        refine ih (j + 1) m (by omega) hfm (hrm.cg (fun l' f' s' h1 h2 h3 => ?_)) (fun x y hx h1 h2 => ?_)
        · constructor
          · rintro ⟨x, x1, x2, x3⟩
            rcases hsp x x1 with q | ⟨s, q⟩
            · exact ⟨x, q, x2, x3⟩
            · rw [q] at x2; exact absurd x2 (hem s)
          · rintro ⟨x, x1, x2, x3⟩; exact ⟨x, by omega, x2, x3⟩
        · rcases hsp x hx with q | ⟨s, q⟩
          · exact hno x y q h1 h2
          · rw [q] at h1; exact absurd h1 (hem s)
      · obtain ⟨t, ht, hb⟩ : ∃ t, t < 32 ∧ zB (m (101 + i) j) t := Classical.byContradiction fun q => c1 ((zB_z hz).mpr (fun s hs q' => q ⟨s, hs, q'⟩))
        have hVj : V j := (hFV _ ((hfr t ht).mp hb)).2.1
        refine c_Tw_cupStep (d := d) hk2 hc0 hne hrm (hp.wf hfm) hcl hFV hik hVj ⟨t, (hfr t ht).mp hb⟩ (fun m' hf' hh => ⟨fun q => absurd q (by decide), fun _ => hQ1 m' (hfm.trans hf') hh⟩) (fun m' hf' hr' hn' => ⟨fun _ x4 e4 => ?_, fun q => absurd rfl q⟩)
        rw [za (by omega)] at e4
        rw [e4]
        refine ih (j + 1) m' (by omega) (hfm.trans hf') (hr'.cg (fun l' f' s' h1 h2 h3 => ?_)) (fun x y hx h1 h2 => ?_)
        · constructor
          · rintro ⟨x, x1, x2, x3⟩
            rcases hsp x x1 with q | ⟨s, q⟩
            · exact Or.inl ⟨x, q, x2, x3⟩
            · rw [q] at x2 x3; exact Or.inr ⟨s, x2, x3⟩
          · rintro (⟨x, x1, x2, x3⟩ | ⟨s, s1, s2⟩)
            · exact ⟨x, by omega, x2, x3⟩
            · exact ⟨(i, j, s), Or.inr ⟨rfl, Nat.lt_succ_self _⟩, s1, s2⟩
        · rcases hsp x hx with q | ⟨s, q⟩
          · exact hno x y q h1 h2
          · rw [q] at h1 h2; exact hn' s y h1 h2
  have outer : ∀ (n i : Nat) (m : zMem), i + n = k → wFr mem m → wRep m X B (fun y => ∃ x, x.1 < i ∧ Fr x ∧ stV rmo nx x y) Fr → (∀ x y, x.1 < i → Fr x → stV rmo nx x y → ¬ tV' rmo c0 y) → zG (d + 3) M_Tw_cupMinute 2 [(2, Int.ofNat 90), (0, c0), (0, (i : Int)), (9, 0)] [] m Q := by
    intro n
    induction n with
    | zero =>
      intro i m hi hfm hrm hno
      refine v_Tw_cupMinute_2 ⟨fun c => hQ0 m hfm (hrm.cg (fun l' f' s' h1 h2 h3 => ?_)) (fun x y h1 h2 => hno x y (by have := (hFV x h1).1; omega) h1 h2), fun c => by omega⟩
      constructor
      · rintro ⟨x, x1, x2⟩; exact ⟨x, by have := (hFV x x1).1; omega, x1, x2⟩
      · rintro ⟨x, -, x1, x2⟩; exact ⟨x, x1, x2⟩
    | succ n ih =>
      intro i m hi hfm hrm hno
      refine v_Tw_cupMinute_2 ⟨fun c => by omega, fun c => inner i (by omega) (fun m' hf' hr' hn' => ih (i + 1) m' (by omega) hf' hr' hn') 30 0 m (by omega) hfm (hrm.cg (fun l' f' s' h1 h2 h3 => ?_)) (fun x y hx => hno x y (by omega))⟩
      constructor
      · rintro ⟨x, x1, x2⟩; exact ⟨x, by omega, x2⟩
      · rintro ⟨x, x1, x2⟩; exact ⟨x, by omega, x2⟩
  exact v_Tw_cupMinute (outer k 0 mem (by omega) wFr.refl (hr.cg (fun l' f' s' h1 h2 h3 => ⟨fun ⟨x, x1, _⟩ => by omega, False.elim⟩)) (fun x y hx => by omega))
/-- minute by minute -/
theorem until_gen {D : Nat} {G : Nat → zMem → Prop} {MIN : zMem → (Int → zMem → Prop) → Prop} {R : Nat × Nat × Nat → Prop}
    (hv : ∀ (i : Nat) (m : zMem), ((4500 < (i : Int) → Q (-4) m) ∧ ((i : Int) ≤ 4500 → ((m 90 8 = 0 → Q (-4) m) ∧ (m 90 8 ≠ 0 → zC (D + 2) K_Tw_turnMinute [(2, Int.ofNat 90)] m (fun _ m1 => MIN m1 (fun r2 m2 => (r2 = 0 → G (i + 1) m2) ∧ (r2 ≠ 0 → Q i m2))))))) → G i m)
    (hmin : ∀ (m1 : zMem) (X : Prop) (B Fr : Nat × Nat × Nat → Prop) (Q' : Int → zMem → Prop), wRep m1 X B (fun _ => False) Fr → wPi m1 V rmo nx → (∀ x, Fr x → R x) → (∀ m2, wFr m1 m2 → (∃ x y, Fr x ∧ stp x y ∧ T y) → Q' 1 m2) → (∀ m2, wFr m1 m2 → wRep m2 X B (fun y => ∃ x, Fr x ∧ stp x y) Fr → (∀ x y, Fr x → stp x y → ¬ T y) → Q' 0 m2) → MIN m1 Q')
    (hR5 : ∀ x, R x → x.1 < 5 ∧ V x.2.1 ∧ V x.2.2) (hR : ∀ n x, lvF s0 stp n x → ¬ T x → R x) (hp : wPi mem V rmo nx) (hQ : ∀ (v : Int) (m' : zMem), lvA s0 stp T v → wFr mem m' → Q v m') :
    ∀ (c n : Nat) (m : zMem) (B Nw Fr : Nat × Nat × Nat → Prop), n + c = 4501 → wFr mem m → wRep m False B Nw Fr → (∀ x, (B x ∨ Nw x) ↔ lvB s0 stp n x) → (∀ x, (Nw x ∧ ¬ B x) ↔ lvF s0 stp n x) → (∀ j, j < n + 1 → ¬ lvH s0 stp T j) → G (n + 1) m := by
  have hV30 : ∀ s, V s → s < 30 := fun s hs => (hp.1 s hs).1
  have hlvR : ∀ n, (∀ j, j < n + 1 → ¬ lvH s0 stp T j) → ∀ j x, j ≤ n → lvF s0 stp j x → R x := fun n hno j x hj hx => hR j x hx (fun ht => hno j (by omega) ⟨x, hx, ht⟩)
  have hlen : ∀ n x, (∀ j, j < n + 1 → ¬ lvH s0 stp T j) → lvF s0 stp n x → n < 4500 := by
    intro n x hno hx
    have hr := hlvR n hno
    refine lv_lenB (code := fun x => (x.2.1 * 30 + x.2.2) * 5 + x.1) (fun j y hj hy => ?_) (fun i j y z hi hj hy hz e => ?_) hx
    · obtain ⟨a1, a2, a3⟩ := hR5 y (hr j y hj hy)
      have := hV30 _ a2
      have := hV30 _ a3
      show (y.2.1 * 30 + y.2.2) * 5 + y.1 < 4500
      omega
    · obtain ⟨a1, a2, a3⟩ := hR5 y (hr i y hi hy)
      obtain ⟨b1, b2, b3⟩ := hR5 z (hr j z hj hz)
      have := hV30 _ a2
      have := hV30 _ a3
      have := hV30 _ b2
      have := hV30 _ b3
      have e' : (y.2.1 * 30 + y.2.2) * 5 + y.1 = (z.2.1 * 30 + z.2.2) * 5 + z.1 := e
      obtain ⟨y1, y2, y3⟩ := y
      obtain ⟨z1, z2, z3⟩ := z
      have c1 : y1 = z1 := by simp only at *; omega
      have c2 : y2 = z2 := by simp only at *; omega
      have c3 : y3 = z3 := by simp only at *; omega
      rw [c1, c2, c3]
  intro c
  induction c with
  | zero =>
    intro n m B Nw Fr hn hf hr hB hF hno
    have hem : ∀ x, ¬ lvF s0 stp n x := fun x hx => by have := hlen n x hno hx; omega
    exact hv (n + 1) m ⟨fun _ => hQ _ _ (Or.inr ⟨rfl, n, hem, fun j hj => hno j (by omega)⟩) hf, fun h => by omega⟩
  | succ c ih =>
    intro n m B Nw Fr hn hf hr hB hF hno
    refine hv (n + 1) m ⟨fun h => ?_, fun h => ⟨fun h8 => ?_, fun h8 => ?_⟩⟩
    · have hem : ∀ x, ¬ lvF s0 stp n x := fun x hx => by have := hlen n x hno hx; omega
      exact hQ _ _ (Or.inr ⟨rfl, n, hem, fun j hj => hno j (by omega)⟩) hf
    · have hem : ∀ x, ¬ lvF s0 stp n x := fun x hx => by
        obtain ⟨a1, a2, a3⟩ := hR5 x (hlvR n hno n x (Nat.le_refl _) hx)
        have := hV30 _ a2
        have := hV30 _ a3
        have hh := (hF x).mpr hx
        exact hr.2.1 ⟨x.1, x.2.1, x.2.2, a1, by omega, by omega, hh.1, hh.2⟩ h8
      exact hQ _ _ (Or.inr ⟨rfl, n, hem, fun j hj => hno j (by omega)⟩) hf
    · refine c_Tw_turnMinute (d := D) hr (fun m1 hr1 hf1 => ?_)
      have eB : (fun x => B x ∨ Nw x) = lvB s0 stp n := funext fun x => propext (hB x)
      have eF : (fun x => Nw x ∧ ¬ B x) = lvF s0 stp n := funext fun x => propext (hF x)
      rw [eB, eF] at hr1
      refine hmin m1 False _ _ _ hr1 (hp.wf (hf.trans hf1)) (hlvR n hno n · (Nat.le_refl _)) (fun m2 hf2 hh => ⟨fun q => absurd q (by decide), fun _ => ?_⟩) (fun m2 hf2 hr2 hn2 => ⟨fun _ => ?_, fun q => absurd rfl q⟩)
      · obtain ⟨x, y, h1, h2, h3⟩ := hh
        exact hQ _ _ (Or.inl ⟨n + 1, rfl, lv_hit hno h1 h2 h3, hno⟩) ((hf.trans hf1).trans hf2)
      · refine ih (n + 1) m2 _ _ _ (by omega) ((hf.trans hf1).trans hf2) hr2 (fun x => lvB_s'.symm) (fun x => lvF_s.symm) (fun j hj => ?_)
        by_cases e : j = n + 1
        · rw [e]
          intro q
          obtain ⟨x, y, h1, h2, h3⟩ := lv_hit' q
          exact hn2 x y h1 h2 h3
        · exact hno j (by omega)
end
