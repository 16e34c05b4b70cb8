section
/-! The class Two: talk and cup. -/
variable {d w u : Nat} {mem m m' m2 : zMem} {Q : Int → zMem → Prop} {V V' : Nat → Prop} {rmo : Nat → Int} {nx : Nat → Nat → Prop} {X X' : Prop} {B B' Nw Nw' Fr Fr' : Nat × Nat × Nat → Prop} {s0 T : Nat × Nat × Nat → Prop} {stp : Nat × Nat × Nat → Nat × Nat × Nat → Prop}
def stW (rmo : Nat → Int) (nx : Nat → Nat → Prop) (k : Nat) (x y : Nat × Nat × Nat) : Prop := x.1 < k ∧ nx x.2.1 y.2.1 ∧ nx x.2.2 y.2.2 ∧ y.1 = if rmo y.2.1 = rmo y.2.2 then x.1 + 1 else 0
def stV (rmo : Nat → Int) (nx : Nat → Nat → Prop) (x y : Nat × Nat × Nat) : Prop := nx x.2.1 y.2.1 ∧ nx x.2.2 y.2.2 ∧ (y.1 = x.1 ∨ (rmo y.2.1 = rmo y.2.2 ∧ y.1 = 1 - x.1))
def tV' (rmo : Nat → Int) (r : Int) (x : Nat × Nat × Nat) : Prop := rmo (if x.1 = 0 then x.2.1 else x.2.2) = r
theorem c_Tw_talkStep {l f k : Nat} (hr : wRep mem X B Nw Fr) (hp : wPi mem V rmo nx) (hcl : ∀ s t, V s → nx s t → V t) (hFV : ∀ x, Fr x → x.1 < k ∧ V x.2.1 ∧ V x.2.2) (hk : k ≤ 5) (hl : l < k) (hVf : V f)
    (hQ1 : ∀ m', wFr mem m' → (∃ x y, Fr x ∧ stW rmo nx k x y ∧ y.1 = k) → Q 1 m') (hQ0 : ∀ m', wFr mem m' → wRep m' X B (fun y => Nw y ∨ ∃ s, Fr (l, f, s) ∧ stW rmo nx k (l, f, s) y) Fr → (∀ s y, Fr (l, f, s) → stW rmo nx k (l, f, s) y → y.1 ≠ k) → Q 0 m') : zC (d + 2) K_Tw_talkStep [(2, Int.ofNat 90), (0, (k : Int)), (0, (l : Int)), (0, (f : Int))] mem Q := by
  refine zC.rg fun _ hrg => ?_
  have hf := (hp.1 f hVf).1
  have hl5 : l < 5 := by omega
  obtain ⟨z1, z2, z3, z4, z5, z6, -⟩ := zTw_rt (t := l) hl5
  have hV30 : ∀ s, V s → s < 30 := fun s hs => (hp.1 s hs).1
  have hfr : ∀ s, s < 32 → (zB (mem (101 + l) f) s ↔ Fr (l, f, s)) := fun s hs => (hr.1 l f s hl5 hf hs).2.2
  have hz : zI (mem (101 + l) f) := zrg_i hrg (by rw [z5]; decide) _
  refine v_Tw_talkStep ⟨by omega, by omega, ?_⟩
  rw [Int.toNat_natCast, Int.toNat_natCast, z2]
  refine c_Tw_nextOf (d := d) hp hz (fun s hs hb => (hFV _ ((hfr s hs).mp hb)).2.2) (fun v hvz hv => ?_)
  have hv' : ∀ t, t < 32 → (zB v t ↔ ∃ s, Fr (l, f, s) ∧ nx s t) := by
    intro t ht
    rw [hv t ht]
    constructor
    · rintro ⟨s, s1, s2, s3⟩; exact ⟨s, (hfr s s1).mp s2, s3⟩
    · rintro ⟨s, s1, s2⟩
      have hs : s < 32 := by have := hV30 s (hFV _ s1).2.2; omega
      exact ⟨s, hs, (hfr s hs).mpr s1, s2⟩
  have hvV : ∀ t, t < 32 → zB v t → V t := by
    intro t ht hb
    obtain ⟨s, s1, s2⟩ := (hv' t ht).mp hb
    exact hcl s t (hFV _ s1).2.2 s2
  have loop : ∀ (n i : Nat) (m : zMem), i + n = 30 → wFr mem m → wRep m X B (fun y => Nw y ∨ (y.2.1 < i ∧ ∃ s, Fr (l, f, s) ∧ stW rmo nx k (l, f, s) y)) Fr → (∀ s y, y.2.1 < i → Fr (l, f, s) → stW rmo nx k (l, f, s) y → y.1 ≠ k) → zG (d + 2) M_Tw_talkStep 17 [(2, Int.ofNat 90), (0, (k : Int)), (0, (l : Int)), (0, (f : Int)), (0, v), (0, (i : Int)), (9, 0)] [] m Q := by
    intro n
    induction n with
    | zero =>
      intro i m hi hfm hrm hno
      have hlt : ∀ y : Nat × Nat × Nat, nx f y.2.1 → y.2.1 < i := fun y hy => by
        have := hV30 _ (hcl f _ hVf hy)
        omega
      refine v_Tw_talkStep_17 ⟨fun c => hQ0 m hfm (hrm.cg (fun l' f' s' h1 h2 h3 => ?_)) (fun s y h1 h2 => hno s y (hlt y h2.2.1) h1 h2), fun c => by omega⟩
      constructor
      · rintro (q | ⟨s, s1, s2⟩)
        · exact Or.inl q
        · exact Or.inr ⟨hlt (l', f', s') s2.2.1, s, s1, s2⟩
      · rintro (q | ⟨q, s, s1, s2⟩)
        · exact Or.inl q
        · exact Or.inr ⟨s, s1, s2⟩
    | succ n ih =>
      intro i m hi hfm hrm hno
      have hpm := hp.wf hfm
      obtain ⟨p1, p2, p3, p4⟩ := hpm.1 f hVf
      refine zG.rg fun _ _ hrgm => ?_
      have hz92 : zI (m 92 f) := zrg_i hrgm (by decide) _
      refine v_Tw_talkStep_17 ⟨fun c => by omega, fun c => ⟨by omega, ?_⟩⟩
      rw [Int.toNat_natCast, Int.toNat_natCast]
      refine ⟨fun c1 => ⟨by omega, ?_⟩, fun c1 x10 e10 => ?_⟩
      · rw [zB_ne hz92 (by omega) (by omega), Int.toNat_natCast, p4 i (by omega)] at c1
        have hVi := hcl f i hVf c1
        obtain ⟨q1, q2, q3, q4⟩ := hpm.1 i hVi
        rw [q2]
        refine ⟨q3, fun x1 e1 => ?_⟩
        have hsame : ∀ t, t < 32 → (zB x1 t ↔ (∃ s, Fr (l, f, s) ∧ nx s t) ∧ rmo i = rmo t) := by
          intro t ht
          rw [e1, zB_and, hpm.2 _ (by omega) t ht, ← hv' t ht]
          constructor
          · rintro ⟨b1, b2, b3⟩; exact ⟨b1, by omega⟩
          · rintro ⟨b1, b2⟩; exact ⟨b1, hvV t ht b1, by omega⟩
        have hrest : ∀ t, t < 32 → (zB (zand v (zxor x1 (-1))) t ↔ (∃ s, Fr (l, f, s) ∧ nx s t) ∧ rmo i ≠ rmo t) := by
          intro t ht
          rw [zB_and, zB_not _ ht, hsame t ht, hv' t ht]
          constructor
          · rintro ⟨b1, b2⟩; exact ⟨b1, fun z => b2 ⟨b1, z⟩⟩
          · rintro ⟨b1, b2⟩; exact ⟨b1, fun z => b2 z.2⟩
        rw [za (by omega)]
        have puts : (x1 ≠ 0 → l + 1 < k) → zC (d + 1) K_Tw_put [(2, Int.ofNat 90), (0, (l : Int) + 1), (0, (i : Int)), (0, x1)] m (fun r2 m1 => zC (d + 1) K_Tw_put [(2, Int.ofNat 90), (0, 0), (0, (i : Int)), (0, zand v (zxor x1 (-1)))] m1 (fun r3 m2 => ∀ x4 : Int, x4 = zadd i 1 → zG (d + 2) M_Tw_talkStep 17 [(2, Int.ofNat 90), (0, (k : Int)), (0, (l : Int)), (0, (f : Int)), (0, v), (0, x4), (9, 0)] [] m2 Q)) := by
          intro hlk
          refine c_Tw_put (d := d) (l := l + 1) hrm (by omega) (fun m1 hr1 hf1 => ?_)
          refine c_Tw_put (d := d) (l := 0) hr1 (by omega) (fun m2 hr2 hf2 x4 e4 => ?_)
          rw [za (by omega)] at e4
          rw [e4]
          refine ih (i + 1) m2 (by omega) ((hfm.trans hf1).trans hf2) (hr2.cg (fun l' f' s' h1 h2 h3 => ?_)) ?_
          · constructor
            · rintro (q | ⟨q, s, s1, s2, s3, s4, s5⟩)
              · exact Or.inl (Or.inl (Or.inl q))
              · by_cases e : f' = i
                · rw [e] at s3 s5
                  have s5' : l' = if rmo i = rmo s' then l + 1 else 0 := s5
                  by_cases er : rmo i = rmo s'
                  · rw [if_pos er] at s5'
                    exact Or.inl (Or.inr ⟨s5', e, (hsame s' h3).mpr ⟨⟨s, s1, s4⟩, er⟩⟩)
                  · rw [if_neg er] at s5'
                    exact Or.inr ⟨s5', e, (hrest s' h3).mpr ⟨⟨s, s1, s4⟩, er⟩⟩
                · have q' : f' < i + 1 := q
                  exact Or.inl (Or.inl (Or.inr ⟨show f' < i by omega, s, s1, s2, s3, s4, s5⟩))
            · rintro ((q | ⟨q, q'⟩) | ⟨b1, b2, b3⟩) 
              · rcases q with q | ⟨q, q'⟩
                · exact Or.inl q
                · have q2 : f' < i := q
                  exact Or.inr ⟨show f' < i + 1 by omega, q'⟩
              · obtain ⟨b2, b3⟩ := q'
                obtain ⟨⟨s, s1, s2⟩, s3⟩ := (hsame s' h3).mp b3
                have b2' : f' = i := b2
                subst b2'
                exact Or.inr ⟨Nat.lt_succ_self _, s, s1, hl, c1, s2, by show l' = if rmo f' = rmo s' then l + 1 else 0; rw [if_pos s3]; exact q⟩
              · obtain ⟨⟨s, s1, s2⟩, s3⟩ := (hrest s' h3).mp b3
                have b2' : f' = i := b2
                subst b2'
                exact Or.inr ⟨Nat.lt_succ_self _, s, s1, hl, c1, s2, by show l' = if rmo f' = rmo s' then l + 1 else 0; rw [if_neg s3]; exact b1⟩
          · intro s y hy h1 h2
            by_cases e : y.2.1 = i
            · obtain ⟨g1, g2, g3, g4⟩ := id h2
              rw [g4]
              split
              · rename_i er
                have hV' := hcl s _ (hFV _ h1).2.2 g3
                have ht : y.2.2 < 32 := by have := hV30 _ hV'; omega
                have hx : x1 ≠ 0 := fun z => (zB_z (e1 ▸ zand_I _ _)).mp z y.2.2 ht ((hsame _ ht).mpr ⟨⟨s, h1, g3⟩, by rw [← e]; exact er⟩)
                have := hlk hx
                show l + 1 ≠ k
                omega
              · omega
            · exact hno s y (by omega) h1 h2
        refine ⟨fun c2 => puts (fun z => absurd c2 z), fun c2 => ⟨fun c3 => puts (fun _ => by omega), fun c3 => hQ1 m hfm ?_⟩⟩
        obtain ⟨t, ht, hb⟩ : ∃ t, t < 32 ∧ zB x1 t := Classical.byContradiction fun q => c2 ((zB_z (e1 ▸ zand_I _ _)).mpr (fun s hs q' => q ⟨s, hs, q'⟩))
        obtain ⟨⟨s, s1, s2⟩, s3⟩ := (hsame t ht).mp hb
        exact ⟨(l, f, s), (l + 1, i, t), s1, ⟨hl, c1, s2, by show l + 1 = if rmo i = rmo t then l + 1 else 0; rw [if_pos s3]⟩, by show l + 1 = k; omega⟩
      · rw [zB_test hz92 (by omega) (by omega), Int.toNat_natCast, p4 i (by omega)] at c1
        rw [za (by omega)] at e10
        rw [e10]
        have hne : ∀ y : Nat × Nat × Nat, y.2.1 < i + 1 → nx f y.2.1 → y.2.1 < i := fun y h1 h2 => by
          by_cases e : y.2.1 = i
          · rw [e] at h2; exact absurd h2 c1
          · omega
        refine ih (i + 1) m (by omega) hfm (hrm.cg (fun l' f' s' h1 h2 h3 => ?_)) (fun s y hy h1 h2 => hno s y (hne y hy h2.2.1) h1 h2)
        constructor
        · rintro (q | ⟨q, s, s1, s2⟩)
          · exact Or.inl q
          · exact Or.inr ⟨hne (l', f', s') q s2.2.1, s, s1, s2⟩
        · rintro (q | ⟨q, s, s1, s2⟩)
          · exact Or.inl q
          · have q2 : f' < i := q
            exact Or.inr ⟨show f' < i + 1 by omega, s, s1, s2⟩
  exact loop 30 0 mem (by omega) wFr.refl (hr.cg (fun l' f' s' h1 h2 h3 => ⟨fun q => q.elim id (fun z => absurd z.1 (Nat.not_lt_zero _)), Or.inl⟩)) (fun s y hy => absurd hy (Nat.not_lt_zero _))
theorem c_Tw_talkMinute {k : Nat} (hr : wRep mem X B (fun _ => False) Fr) (hp : wPi mem V rmo nx) (hcl : ∀ s t, V s → nx s t → V t) (hFV : ∀ x, Fr x → x.1 < k ∧ V x.2.1 ∧ V x.2.2) (hk : k ≤ 5)
    (hQ1 : ∀ m', wFr mem m' → (∃ x y, Fr x ∧ stW rmo nx k x y ∧ y.1 = k) → Q 1 m') (hQ0 : ∀ m', wFr mem m' → wRep m' X B (fun y => ∃ x, Fr x ∧ stW rmo nx k x y) Fr → (∀ x y, Fr x → stW rmo nx k x y → y.1 ≠ k) → Q 0 m') : zC (d + 3) K_Tw_talkMinute [(2, Int.ofNat 90), (0, (k : Int))] mem Q := by
  have inner : ∀ (i : Nat), i < k → (∀ m : zMem, wFr mem m → wRep m X B (fun y => ∃ x, x.1 < i + 1 ∧ Fr x ∧ stW rmo nx k x y) Fr → (∀ x y, x.1 < i + 1 → Fr x → stW rmo nx k x y → y.1 ≠ k) → zG (d + 3) M_Tw_talkMinute 2 [(2, Int.ofNat 90), (0, (k : Int)), (0, ((i + 1 : Nat) : Int)), (9, 0)] [] m Q) → ∀ (n j : Nat) (m : zMem), j + n = 30 → wFr mem m → wRep m X B (fun y => ∃ x, (x.1 < i ∨ (x.1 = i ∧ x.2.1 < j)) ∧ Fr x ∧ stW rmo nx k x y) Fr → (∀ x y, (x.1 < i ∨ (x.1 = i ∧ x.2.1 < j)) → Fr x → stW rmo nx k x y → y.1 ≠ k) → zG (d + 3) M_Tw_talkMinute 9 [(2, Int.ofNat 90), (0, (k : Int)), (0, (i : Int)), (0, (j : Int))] [] m Q := by
    intro i hik hnx n
    induction n with
    | zero =>
      intro j m hj hfm hrm hno
      have hV30 : ∀ x, Fr x → x.2.1 < 30 := fun x hx => (hp.1 _ (hFV x hx).2.1).1
      refine v_Tw_talkMinute_9 ⟨fun c x1 e1 => ?_, fun c => by omega⟩
      rw [za (by omega)] at e1
      rw [e1]
      refine hnx m hfm (hrm.cg (fun l' f' s' h1 h2 h3 => ?_)) (fun x y hx h1 h2 => hno x y (by have := hV30 x h1; omega) h1 h2)
      constructor
      · rintro ⟨x, x1, x2, x3⟩; exact ⟨x, by have := hV30 x x2; omega, x2, x3⟩
      · rintro ⟨x, x1, x2, x3⟩; exact ⟨x, by omega, x2, x3⟩
    | succ n ih =>
      intro j m hj hfm hrm hno
      obtain ⟨z1, z2, z3, z4, z5, z6, -⟩ := zTw_rt (t := i) (by omega)
      refine zG.rg fun _ _ hrg => ?_
      have hz : zI (m (101 + i) j) := zrg_i hrg (by rw [z5]; decide) _
      have hfr : ∀ s, s < 32 → (zB (m (101 + i) j) s ↔ Fr (i, j, s)) := fun s hs => (hrm.1 i j s (by omega) (by omega) hs).2.2
      have hsp : ∀ x : Nat × Nat × Nat, (x.1 < i ∨ (x.1 = i ∧ x.2.1 < j + 1)) → (x.1 < i ∨ (x.1 = i ∧ x.2.1 < j)) ∨ ∃ s, x = (i, j, s) := by
        rintro ⟨x1, x2, x3⟩ h
        have h' : x1 < i ∨ (x1 = i ∧ x2 < j + 1) := h
        by_cases e : x1 = i ∧ x2 = j
        · exact Or.inr ⟨x3, by rw [e.1, e.2]⟩
        · left
          show x1 < i ∨ (x1 = i ∧ x2 < j)
          omega
      refine v_Tw_talkMinute_9 ⟨fun c => by omega, fun c => ⟨by omega, by omega, ?_⟩⟩
      rw [Int.toNat_natCast, Int.toNat_natCast, z2]
      refine ⟨fun c1 x2 e2 => ?_, fun c1 => ?_⟩
      · rw [za (by omega)] at e2
        rw [e2]
        have hem : ∀ s, ¬ Fr (i, j, s) := fun s hs => by
          have h32 : s < 32 := by have := (hp.1 _ (hFV _ hs).2.2).1; show s < 32; exact Nat.lt_trans this (by decide)
          exact (zB_z hz).mp c1 s h32 ((hfr s h32).mpr hs)
        refine ih (j + 1) m (by omega) hfm (hrm.cg (fun l' f' s' h1 h2 h3 => ?_)) (fun x y hx h1 h2 => ?_)
        · constructor
          · rintro ⟨x, x1, x2, x3⟩
            rcases hsp x x1 with q | ⟨s, q⟩
            · exact ⟨x, q, x2, x3⟩
            · rw [q] at x2; exact absurd x2 (hem s)
          · rintro ⟨x, x1, x2, x3⟩; exact ⟨x, by omega, x2, x3⟩
        · rcases hsp x hx with q | ⟨s, q⟩
          · exact hno x y q h1 h2
          · rw [q] at h1; exact absurd h1 (hem s)
      · obtain ⟨t, ht, hb⟩ : ∃ t, t < 32 ∧ zB (m (101 + i) j) t := Classical.byContradiction fun q => c1 ((zB_z hz).mpr (fun s hs q' => q ⟨s, hs, q'⟩))
        have hVj : V j := (hFV _ ((hfr t ht).mp hb)).2.1
        refine c_Tw_talkStep (d := d) hrm (hp.wf hfm) hcl hFV hk hik hVj (fun m' hf' hh => ⟨fun q => absurd q (by decide), fun _ => hQ1 m' (hfm.trans hf') hh⟩) (fun m' hf' hr' hn' => ⟨fun _ x4 e4 => ?_, fun q => absurd rfl q⟩)
        rw [za (by omega)] at e4
        rw [e4]
        refine ih (j + 1) m' (by omega) (hfm.trans hf') (hr'.cg (fun l' f' s' h1 h2 h3 => ?_)) (fun x y hx h1 h2 => ?_)
        · constructor
          · rintro ⟨x, x1, x2, x3⟩
            rcases hsp x x1 with q | ⟨s, q⟩
            · exact Or.inl ⟨x, q, x2, x3⟩
            · rw [q] at x2 x3; exact Or.inr ⟨s, x2, x3⟩
          · rintro (⟨x, x1, x2, x3⟩ | ⟨s, s1, s2⟩)
            · exact ⟨x, by omega, x2, x3⟩
            · exact ⟨(i, j, s), Or.inr ⟨rfl, Nat.lt_succ_self _⟩, s1, s2⟩
        · rcases hsp x hx with q | ⟨s, q⟩
          · exact hno x y q h1 h2
          · rw [q] at h1 h2; exact hn' s y h1 h2
  have outer : ∀ (n i : Nat) (m : zMem), i + n = k → wFr mem m → wRep m X B (fun y => ∃ x, x.1 < i ∧ Fr x ∧ stW rmo nx k x y) Fr → (∀ x y, x.1 < i → Fr x → stW rmo nx k x y → y.1 ≠ k) → zG (d + 3) M_Tw_talkMinute 2 [(2, Int.ofNat 90), (0, (k : Int)), (0, (i : Int)), (9, 0)] [] m Q := by
    intro n
    induction n with
    | zero =>
      intro i m hi hfm hrm hno
      refine v_Tw_talkMinute_2 ⟨fun c => hQ0 m hfm (hrm.cg (fun l' f' s' h1 h2 h3 => ?_)) (fun x y h1 h2 => hno x y (by have := (hFV x h1).1; omega) h1 h2), fun c => by omega⟩
      constructor
      · rintro ⟨x, x1, x2⟩; exact ⟨x, by have := (hFV x x1).1; omega, x1, x2⟩
      · rintro ⟨x, -, x1, x2⟩; exact ⟨x, x1, x2⟩
    | succ n ih =>
      intro i m hi hfm hrm hno
      refine v_Tw_talkMinute_2 ⟨fun c => by omega, fun c => inner i (by omega) (fun m' hf' hr' hn' => ih (i + 1) m' (by omega) hf' hr' hn') 30 0 m (by omega) hfm (hrm.cg (fun l' f' s' h1 h2 h3 => ?_)) (fun x y hx => hno x y (by omega))⟩
      constructor
      · rintro ⟨x, x1, x2⟩; exact ⟨x, by omega, x2⟩
      · rintro ⟨x, x1, x2⟩; exact ⟨x, by omega, x2⟩
  exact v_Tw_talkMinute (outer k 0 mem (by omega) wFr.refl (hr.cg (fun l' f' s' h1 h2 h3 => ⟨fun ⟨x, x1, _⟩ => by omega, False.elim⟩)) (fun x y hx => by omega))
end
