section
/-! The class Two: rows. -/
variable {d w u : Nat} {mem m m' m2 : zMem} {Q : Int → zMem → Prop} {V V' : Nat → Prop} {rmo : Nat → Int} {nx : Nat → Nat → Prop} {X X' : Prop} {B B' Nw Nw' Fr Fr' : Nat × Nat × Nat → Prop}
def wCm (B Nw : Nat × Nat × Nat → Prop) : Prop := ∃ l f s : Nat, l < 5 ∧ f < 30 ∧ s < 32 ∧ Nw (l, f, s) ∧ ¬ B (l, f, s)
def wRep (m : zMem) (X : Prop) (B Nw Fr : Nat × Nat × Nat → Prop) : Prop :=
  (∀ l f s : Nat, l < 5 → f < 30 → s < 32 → (zB (m (95 + l) f) s ↔ B (l, f, s) ∨ Nw (l, f, s)) ∧ (zB (m (107 + l) f) s ↔ Nw (l, f, s) ∧ ¬ B (l, f, s)) ∧ (zB (m (101 + l) f) s ↔ Fr (l, f, s))) ∧ (wCm B Nw → m 90 8 ≠ 0) ∧ (m 90 8 ≠ 0 → X ∨ wCm B Nw)
theorem wRep.cg (h : wRep m X B Nw Fr) (h1 : ∀ l f s, l < 5 → f < 30 → s < 32 → (Nw' (l, f, s) ↔ Nw (l, f, s))) : wRep m X B Nw' Fr := by
  obtain ⟨a1, a2, a3⟩ := h
  have e : wCm B Nw' ↔ wCm B Nw := by
    constructor
    · rintro ⟨l, f, s, b1, b2, b3, b4, b5⟩; exact ⟨l, f, s, b1, b2, b3, (h1 l f s b1 b2 b3).mp b4, b5⟩
    · rintro ⟨l, f, s, b1, b2, b3, b4, b5⟩; exact ⟨l, f, s, b1, b2, b3, (h1 l f s b1 b2 b3).mpr b4, b5⟩
  refine ⟨fun l f s hl hf hs => ?_, fun q => a2 (e.mp q), fun q => by rw [e]; exact a3 q⟩
  rw [h1 l f s hl hf hs]
  exact a1 l f s hl hf hs
theorem c_Tw_put (hr : wRep mem X B Nw Fr) {l f : Nat} (hf : f < 30) {sec : Int} (hQ : ∀ m' : zMem, wRep m' X B (fun x => Nw x ∨ (x.1 = l ∧ x.2.1 = f ∧ zB sec x.2.2)) Fr → wFr mem m' → Q 0 m') : zC (d + 1) K_Tw_put [(2, Int.ofNat 90), (0, (l : Int)), (0, (f : Int)), (0, sec)] mem Q := by
  refine v_Tw_put ⟨fun c => hQ mem (hr.cg (fun l' f' s' h1 h2 h3 => ?_)) wFr.refl, fun c => ⟨by omega, by omega, ?_⟩⟩
  · constructor
    · rintro (q | ⟨q, -⟩)
      · exact q
      · have : l' = l := q
        omega
    · exact Or.inl
  obtain ⟨z1, z2, z3, z4, z5, z6, -⟩ := zTw_rt (t := l) (by omega)
  rw [Int.toNat_natCast, Int.toNat_natCast, z1, z3]
  intro x1 e1
  obtain ⟨a1, a2, a3⟩ := id hr
  have hl : l < 5 := by omega
  have hb : ∀ s, s < 32 → (zB x1 s ↔ zB sec s ∧ ¬ (B (l, f, s) ∨ Nw (l, f, s))) := fun s hs => by
    rw [e1, zB_and, zB_not _ hs, (a1 l f s hl hf hs).1]
  have hz : zI x1 := e1 ▸ zand_I _ _
  refine ⟨fun c1 => hQ mem ⟨fun l' f' s' h1 h2 h3 => ?_, fun q => a2 ?_, fun q => (a3 q).imp id ?_⟩ wFr.refl, fun c1 => ⟨by omega, by omega, by omega, fun m1 f1 => ⟨by omega, by omega, by omega, fun m2 f2 m3 f3 => ?_⟩⟩⟩
  · obtain ⟨b1, b2, b3⟩ := a1 l' f' s' h1 h2 h3
    rw [b1, b2, b3]
    have hk : l' = l → f' = f → zB sec s' → B (l', f', s') ∨ Nw (l', f', s') := by
      rintro rfl rfl q
      by_cases z : B (l', f', s') ∨ Nw (l', f', s')
      · exact z
      · exact absurd ((hb s' h3).mpr ⟨q, z⟩) ((zB_z hz).mp c1 s' h3)
    refine ⟨⟨fun q => q.imp id Or.inl, ?_⟩, ⟨fun q => ⟨Or.inl q.1, q.2⟩, ?_⟩, Iff.rfl⟩
    · rintro (q | q | ⟨q1, q2, q3⟩)
      · exact Or.inl q
      · exact Or.inr q
      · exact hk q1 q2 q3
    · rintro ⟨q | ⟨q1, q2, q3⟩, q'⟩
      · exact ⟨q, q'⟩
      · exact ⟨(hk q1 q2 q3).resolve_left q', q'⟩
  · obtain ⟨l', f', s', h1, h2, h3, h4, h5⟩ := q
    refine ⟨l', f', s', h1, h2, h3, ?_, h5⟩
    rcases h4 with h4 | ⟨q1, q2, q3⟩
    · exact h4
    · have q1' : l' = l := q1
      have q2' : f' = f := q2
      have q3' : zB sec s' := q3
      subst q1' q2'
      by_cases z : B (l', f', s') ∨ Nw (l', f', s')
      · exact z.resolve_left h5
      · exact absurd ((hb s' h3).mpr ⟨q3', z⟩) ((zB_z hz).mp c1 s' h3)
  · rintro ⟨l', f', s', h1, h2, h3, h4, h5⟩
    exact ⟨l', f', s', h1, h2, h3, Or.inl h4, h5⟩
  · have e95 : ∀ l' f', l' < 5 → m3 (95 + l') f' = if l' = l ∧ f' = f then zor (mem (95 + l) f) x1 else mem (95 + l') f' := fun l' f' h1 => by
      rw [f3, zup_k (by omega), f2, zup_k (by omega), f1, zup_at]
      by_cases e : l' = l ∧ f' = f
      · rw [if_pos ⟨by omega, e.2⟩, if_pos e]
      · rw [if_neg (fun q => e ⟨by omega, q.2⟩), if_neg e]
    have e107 : ∀ l' f', l' < 5 → m3 (107 + l') f' = if l' = l ∧ f' = f then zor (mem (107 + l) f) x1 else mem (107 + l') f' := fun l' f' h1 => by
      rw [f3, zup_k (by omega), f2, zup_at, f1, zup_k (by omega)]
      by_cases e : l' = l ∧ f' = f
      · rw [if_pos ⟨by omega, e.2⟩, if_pos e]
      · rw [if_neg (fun q => e ⟨by omega, q.2⟩), if_neg e, zup_k (by omega)]
    have h8 : m3 90 8 ≠ 0 := by rw [f3, zup_e]; decide
    have hx : ∃ s, s < 32 ∧ zB x1 s := by
      refine Classical.byContradiction fun q => c1 ((zB_z hz).mpr (fun s hs q' => q ⟨s, hs, q'⟩))
    refine hQ m3 ⟨fun l' f' s' h1 h2 h3 => ?_, fun _ => h8, fun _ => Or.inr ?_⟩ ⟨fun k hk => ?_, fun j hj => ?_⟩
    · obtain ⟨b1, b2, b3⟩ := a1 l' f' s' h1 h2 h3
      have e101 : m3 (101 + l') f' = mem (101 + l') f' := by rw [f3, zup_k (by omega), f2, zup_k (by omega), f1, zup_k (by omega)]
      rw [e95 l' f' h1, e107 l' f' h1, e101, b3]
      refine ⟨?_, ?_, Iff.rfl⟩
      · by_cases e : l' = l ∧ f' = f
        · obtain ⟨rfl, rfl⟩ := e
          rw [if_pos ⟨rfl, rfl⟩, zB_or, hb s' h3, b1]
          constructor
          · rintro (q | q)
            · exact q.imp id Or.inl
            · exact Or.inr (Or.inr ⟨rfl, rfl, q.1⟩)
          · rintro (q | q | ⟨-, -, q⟩)
            · exact Or.inl (Or.inl q)
            · exact Or.inl (Or.inr q)
            · by_cases z : B (l', f', s') ∨ Nw (l', f', s')
              · exact Or.inl z
              · exact Or.inr ⟨q, z⟩
        · rw [if_neg e, b1]
          constructor
          · exact fun q => q.imp id Or.inl
          · rintro (q | q | ⟨q1, q2, -⟩)
            · exact Or.inl q
            · exact Or.inr q
            · exact absurd ⟨q1, q2⟩ e
      · by_cases e : l' = l ∧ f' = f
        · obtain ⟨rfl, rfl⟩ := e
          rw [if_pos ⟨rfl, rfl⟩, zB_or, hb s' h3, b2]
          constructor
          · rintro (q | q)
            · exact ⟨Or.inl q.1, q.2⟩
            · exact ⟨Or.inr ⟨rfl, rfl, q.1⟩, fun z => q.2 (Or.inl z)⟩
          · rintro ⟨q | ⟨-, -, q⟩, z⟩
            · exact Or.inl ⟨q, z⟩
            · by_cases z' : Nw (l', f', s')
              · exact Or.inl ⟨z', z⟩
              · exact Or.inr ⟨q, fun y => y.elim z z'⟩
        · rw [if_neg e, b2]
          constructor
          · exact fun q => ⟨Or.inl q.1, q.2⟩
          · rintro ⟨q | ⟨q1, q2, -⟩, z⟩
            · exact ⟨q, z⟩
            · exact absurd ⟨q1, q2⟩ e
    · obtain ⟨s, s1, s2⟩ := hx
      have := (hb s s1).mp s2
      exact ⟨l, f, s, hl, hf, s1, Or.inr ⟨rfl, rfl, this.1⟩, fun z => this.2 (Or.inl z)⟩
    · funext j
      rw [f3, zup_k (by omega), f2, zup_k (by omega), f1, zup_k (by omega)]
    · rw [f3, zup_j hj, f2, zup_k (by omega), f1, zup_k (by omega)]
theorem c_Tw_turnMinute (hr : wRep mem X B Nw Fr) (hQ : ∀ m' : zMem, wRep m' False (fun x => B x ∨ Nw x) (fun _ => False) (fun x => Nw x ∧ ¬ B x) → wFr mem m' → Q 0 m') : zC (d + 2) K_Tw_turnMinute [(2, Int.ofNat 90)] mem Q := by
  have loop : ∀ (n i : Nat) (m : zMem), i + n = 5 → (∀ l f : Nat, l < i → f < 30 → m (101 + l) f = mem (107 + l) f ∧ m (107 + l) f = 0) → (∀ l, i ≤ l → l < 5 → m (107 + l) = mem (107 + l)) → (∀ l, l < 5 → m (95 + l) = mem (95 + l)) → wFr mem m → zG (d + 2) M_Tw_turnMinute 2 [(2, Int.ofNat 90), (0, (i : Int))] [] m Q := by
    intro n
    induction n with
    | zero =>
      intro i m hi h1 h2 h3 hf
      refine v_Tw_turnMinute_2 ⟨fun c m1 e1 => hQ m1 ⟨fun l f s hl hf' hs => ?_, fun q => ?_, fun q => ?_⟩ ⟨fun k hk => ?_, fun j hj => ?_⟩, fun c => by omega⟩
      · obtain ⟨b1, b2, b3⟩ := hr.1 l f s hl hf' hs
        obtain ⟨c1, c2⟩ := h1 l f (by omega) hf'
        rw [e1, zup_k (by omega), zup_k (by omega), zup_k (by omega), h3 l hl, c1, c2, b1, b2]
        exact ⟨⟨Or.inl, fun q => q.elim id False.elim⟩, ⟨fun q => absurd q (zB_0 s), fun q => q.1.elim⟩, Iff.rfl⟩
      · obtain ⟨l, f, s, -, -, -, q, -⟩ := q
        exact q.elim
      · rw [e1, zup_e] at q
        exact absurd rfl q
      · funext j; rw [e1, zup_k (by omega), hf.1 k hk]
      · rw [e1, zup_j hj, hf.2 j hj]
    | succ n ih =>
      intro i m hi h1 h2 h3 hf
      obtain ⟨z1, z2, z3, z4, z5, z6, z7, z8⟩ := zTw_rt (t := i) (by omega)
      refine v_Tw_turnMinute_2 ⟨fun c => by omega, fun c => ⟨by omega, by omega, fun m2 e2 => ⟨by omega, ?_⟩⟩⟩
      rw [Int.toNat_natCast, z2, z3] at e2
      rw [Int.toNat_natCast, z3]
      refine c_Jd_fill (d := d) z6 (fun x2 ex => ?_)
      rw [za (by omega)] at ex
      rw [ex, z8]
      refine ih (i + 1) _ (by omega) (fun l f hl hf' => ?_) (fun l l1 l2 => ?_) (fun l hl => ?_) ⟨fun k hk => ?_, fun j hj => ?_⟩
      · by_cases e : l = i
        · rw [e, zfl_k (by omega), zfl_e hf', e2, zcp_e hf', h2 i (by omega) (by omega)]
          exact ⟨rfl, rfl⟩
        · rw [zfl_k (by omega), zfl_k (by omega), e2, zcp_k (by omega), zcp_k (by omega)]
          exact h1 l f (by omega) hf'
      · rw [zfl_k (by omega)]
        funext j
        rw [e2, zcp_k (by omega), h2 l (by omega) l2]
      · rw [zfl_k (by omega)]
        funext j
        rw [e2, zcp_k (by omega), h3 l hl]
      · rw [zfl_k (by omega)]
        funext j
        rw [e2, zcp_k (by omega), hf.1 k hk]
      · rw [zfl_k (by omega), e2, zcp_k (by omega), hf.2 j hj]
  exact v_Tw_turnMinute (loop 5 0 mem (by omega) (fun l f hl => by omega) (fun l _ _ => rfl) (fun l _ => rfl) wFr.refl)
theorem c_Tw_nextOf {sec : Int} (hp : wPi mem V rmo nx) (hz : zI sec) (hv : ∀ s, s < 32 → zB sec s → V s) (hQ : ∀ v, zI v → (∀ t, t < 32 → (zB v t ↔ ∃ s, s < 32 ∧ zB sec s ∧ nx s t)) → Q v mem) : zC (d + 1) K_Tw_nextOf [(2, Int.ofNat 90), (0, sec)] mem Q := by
  have loop : ∀ (n i : Nat) (v : Int), i + n = 30 → zI v → (∀ t, t < 32 → (zB v t ↔ ∃ s, s < i ∧ zB sec s ∧ nx s t)) → zG (d + 1) M_Tw_nextOf 4 [(2, Int.ofNat 90), (0, sec), (0, v), (0, (i : Int))] [] mem Q := by
    intro n
    induction n with
    | zero =>
      intro i v hi hvz hb
      refine v_Tw_nextOf_4 ⟨fun c => hQ v hvz (fun t ht => ?_), fun c => by omega⟩
      rw [hb t ht]
      constructor
      · rintro ⟨s, s1, s2⟩; exact ⟨s, by omega, s2⟩
      · rintro ⟨s, s1, s2⟩; exact ⟨s, by have := (hp.1 s (hv s s1 s2.1)).1; omega, s2⟩
    | succ n ih =>
      intro i v hi hvz hb
      refine v_Tw_nextOf_4 ⟨fun c => by omega, fun c => ⟨fun c1 x1 e1 => ?_, fun c1 => ⟨by omega, fun x2 e2 x3 e3 => ?_⟩⟩⟩
      · rw [zB_test hz (by omega) (by omega), Int.toNat_natCast] at c1
        rw [za (by omega)] at e1
        rw [e1]
        refine ih (i + 1) v (by omega) hvz (fun t ht => ?_)
        rw [hb t ht]
        constructor
        · rintro ⟨s, s1, s2⟩; exact ⟨s, by omega, s2⟩
        · rintro ⟨s, s1, s2⟩
          by_cases e : s = i
          · rw [e] at s2; exact absurd s2.1 c1
          · exact ⟨s, by omega, s2⟩
      · rw [zB_ne hz (by omega) (by omega), Int.toNat_natCast] at c1
        rw [za (by omega)] at e3
        rw [Int.toNat_natCast] at e2
        rw [e2, e3]
        refine ih (i + 1) _ (by omega) (zor_I _ _) (fun t ht => ?_)
        rw [zB_or, hb t ht, (hp.1 i (hv i (by omega) c1)).2.2.2 t ht]
        constructor
        · rintro (⟨s, s1, s2⟩ | q)
          · exact ⟨s, by omega, s2⟩
          · exact ⟨i, by omega, c1, q⟩
        · rintro ⟨s, s1, s2⟩
          by_cases e : s = i
          · rw [e] at s2; exact Or.inr s2.2
          · exact Or.inl ⟨s, by omega, s2⟩
  exact v_Tw_nextOf (loop 30 0 0 (by omega) zI_0 (fun t ht => ⟨fun q => absurd q (zB_0 t), fun ⟨s, s1, _⟩ => by omega⟩))
end
