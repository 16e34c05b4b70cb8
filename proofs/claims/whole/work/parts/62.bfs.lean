section
/-! The search by doors, in order: what both sides do. An entry: place, number of the one it comes from, length. -/
abbrev zBf : Type := Nat × (Nat → Int × Nat × Int)
variable {g : zPg} {b b' b2 : zBf} {pl r t u : Int} {s k : Nat}
theorem zpig : ∀ (m n : Nat) (f : Nat → Nat), (∀ i, i < n → f i < m) → (∀ i j, i < j → j < n → f i ≠ f j) → n ≤ m
  | 0, n, f, h1, _ => by
    rcases Nat.eq_zero_or_pos n with h | h
    · omega
    · exact absurd (h1 0 h) (by omega)
  | m + 1, n, f, h1, h2 => by
    by_cases hx : ∃ i, i < n ∧ f i = m
    · obtain ⟨i, hi, e⟩ := hx
      have := zpig m (n - 1) (fun j => f (if j < i then j else j + 1)) (fun j hj => ?_) (fun j l hjl hl => ?_)
      · omega
      · skip
        split
        · have := h1 j (by omega)
          have := h2 j i (by omega) hi
          omega
        · have := h1 (j + 1) (by omega)
          have := h2 i (j + 1) (by omega) (by omega)
          omega
      · skip
        split <;> split
        · exact h2 j l hjl (by omega)
        · exact h2 j (l + 1) (by omega) (by omega)
        · omega
        · exact h2 (j + 1) (l + 1) (by omega) (by omega)
    · refine Nat.le_succ_of_le (zpig m n f (fun i hi => ?_) h2)
      have := h1 i hi
      have : f i ≠ m := fun q => hx ⟨i, hi, q⟩
      omega
def bIn (b : zBf) (p : Int) : Prop := ∃ i, i < b.1 ∧ (b.2 i).1 = p
def bPush (b : zBf) (p : Int) (f : Nat) (z : Int) : zBf := (b.1 + 1, fun i => if i = b.1 then (p, f, z) else b.2 i)
noncomputable def bDo (g : zPg) (k : Nat) (b : zBf) (d : Nat) : zBf := @ite zBf (pMay g (b.2 k).1 d ∧ ¬ bIn b (pStep g (b.2 k).1 d)) (Classical.propDecidable _) (bPush b (pStep g (b.2 k).1 d) k ((b.2 k).2.2 + 1)) b
noncomputable def bSp (g : zPg) (k : Nat) : Nat → zBf → zBf
  | 0, b => b
  | d + 1, b => bDo g k (bSp g k d b) d
noncomputable def bQ (g : zPg) (b : zBf) : Nat → zBf
  | 0 => b
  | k + 1 => if k < (bQ g b k).1 then bSp g k (gN g).toNat (bQ g b k) else bQ g b k
def bLe (b b' : zBf) : Prop := b.1 ≤ b'.1 ∧ ∀ i, i < b.1 → b'.2 i = b.2 i
theorem bLe.refl : bLe b b := ⟨Nat.le_refl _, fun _ _ => rfl⟩
theorem bLe.trans (h : bLe b b') (h' : bLe b' b2) : bLe b b2 := ⟨Nat.le_trans h.1 h'.1, fun i hi => by rw [h'.2 i (Nat.lt_of_lt_of_le hi h.1), h.2 i hi]⟩
theorem bPush_le (p : Int) (f : Nat) (z : Int) : bLe b (bPush b p f z) := ⟨Nat.le_succ _, fun i hi => by show (if i = b.1 then _ else _) = _; rw [if_neg (by omega)]⟩
theorem bPush_at {p : Int} {f : Nat} {z : Int} : (bPush b p f z).2 b.1 = (p, f, z) := by show (if b.1 = b.1 then _ else _) = _; rw [if_pos rfl]
theorem bPush_in {p q : Int} {f : Nat} {z : Int} : bIn (bPush b p f z) q ↔ bIn b q ∨ q = p := by
  constructor
  · rintro ⟨i, hi, e⟩
    by_cases h : i = b.1
    · rw [h, bPush_at] at e
      exact Or.inr e.symm
    · have hi2 : i < b.1 := by have : i < b.1 + 1 := hi; omega
      rw [(bPush_le p f z).2 i hi2] at e
      exact Or.inl ⟨i, hi2, e⟩
  · rintro (⟨i, hi, e⟩ | e)
    · exact ⟨i, by show i < b.1 + 1; omega, by rw [(bPush_le p f z).2 i hi]; exact e⟩
    · exact ⟨b.1, by show b.1 < b.1 + 1; omega, by rw [bPush_at]; exact e.symm⟩
theorem bLe.in (h : bLe b b') {p : Int} (hp : bIn b p) : bIn b' p := by
  obtain ⟨i, hi, e⟩ := hp
  exact ⟨i, Nat.lt_of_lt_of_le hi h.1, by rw [h.2 i hi]; exact e⟩
theorem bDo_le {d : Nat} : bLe b (bDo g k b d) := by
  unfold bDo
  split
  · exact bPush_le _ _ _
  · exact bLe.refl
theorem bSp_le : ∀ d, bLe b (bSp g k d b)
  | 0 => bLe.refl
  | d + 1 => (bSp_le d).trans bDo_le
theorem bQ_le1 : bLe (bQ g b k) (bQ g b (k + 1)) := by
  show bLe _ (if _ then _ else _)
  split
  · exact bSp_le _
  · exact bLe.refl
theorem bQ_le {k : Nat} : ∀ k', k ≤ k' → bLe (bQ g b k) (bQ g b k')
  | 0, h => by rw [show k = 0 by omega]; exact bLe.refl
  | k' + 1, h => by
    by_cases e : k = k' + 1
    · rw [e]; exact bLe.refl
    · exact (bQ_le k' (by omega)).trans bQ_le1
theorem bQ_stop {k : Nat} (h : (bQ g b k).1 ≤ k) : ∀ k', k ≤ k' → bQ g b k' = bQ g b k
  | 0, h' => by rw [show k = 0 by omega]
  | k' + 1, h' => by
    by_cases e : k = k' + 1
    · rw [e]
    · have ih := bQ_stop h k' (by omega)
      show (if _ then _ else _) = _
      rw [ih, if_neg (by omega)]
/-- the entry i stands -/
def bV (g : zPg) (b : zBf) (i : Nat) : Prop := i < (bQ g b i).1
noncomputable def bE (g : zPg) (b : zBf) (i : Nat) : Int × Nat × Int := (bQ g b i).2 i
theorem bV_of {i k : Nat} (h : i < (bQ g b k).1) : bV g b i := by
  unfold bV
  rcases Nat.lt_or_ge i (bQ g b i).1 with q | q
  · exact q
  · rcases Nat.le_total k i with z | z
    · have := (bQ_le (g := g) (b := b) i z).1
      omega
    · rw [bQ_stop q k z] at h
      omega
theorem bV_dn {i j : Nat} (h : bV g b i) (hj : j ≤ i) : bV g b j := bV_of (k := i) (by unfold bV at h; omega)
theorem bE_of {i k : Nat} (h : i < (bQ g b k).1) : (bQ g b k).2 i = bE g b i := by
  have hv := bV_of h
  unfold bE
  rcases Nat.le_total k i with z | z
  · rw [(bQ_le (g := g) (b := b) i z).2 i h]
  · rw [(bQ_le (g := g) (b := b) k z).2 i hv]
theorem bV_not {k : Nat} (h : (bQ g b k).1 ≤ k) : ¬ bV g b k := by unfold bV; omega
/-- all is well with the entries; the first s were there ahead of the search -/
def bWf (g : zPg) (s : Nat) (b : zBf) : Prop :=
  s ≤ b.1 ∧ (∀ i, i < b.1 → pOK g (b.2 i).1 ∧ (0 ≤ (b.2 i).2.2 ∧ (b.2 i).2.2 ≤ i)) ∧ (∀ i j, i < j → j < b.1 → (b.2 i).1 ≠ (b.2 j).1) ∧ (∀ i, s ≤ i → i < b.1 → (b.2 i).1 < 420 ∧ (b.2 i).2.1 < i ∧ (b.2 i).2.2 = (b.2 (b.2 i).2.1).2.2 + 1) ∧ ∀ i, i < s → (b.2 i).2.2 = 0
theorem pStep_eq (hD : gDo g) (hp : pOK g pl) {d : Nat} (hd : (d : Int) < gN g) : pStep g pl d = 15 * (if gA g d = pR g pl then 2 * (d : Int) + 1 else 2 * d) + ((if gL g = 1 then zn4 (pL pl) else -1) + 1) := by
  unfold pStep pMk zn4
  rw [if_neg (show ¬ (d : Int) = -4 by omega)]
  by_cases q1 : gA g d = pR g pl
  · rw [if_pos q1, if_pos q1]
    by_cases q2 : gL g = 1
    · rw [if_pos q2, if_pos q2]
      split <;> omega
    · rw [if_neg q2, if_neg q2, if_pos rfl]
      omega
  · rw [if_neg q1, if_neg q1]
    by_cases q2 : gL g = 1
    · rw [if_pos q2, if_pos q2]
      split <;> omega
    · rw [if_neg q2, if_neg q2, if_pos rfl]
      omega
theorem pL_b (hp : pOK g pl) : pL pl = -4 ∨ (0 ≤ pL pl ∧ pL pl < gN g) := by
  obtain ⟨h1, h2, h3, h4⟩ := hp
  unfold pL
  split <;> omega
theorem pB_b (hp : pOK g pl) : -1 ≤ pB pl ∧ pB pl < 14 := by
  obtain ⟨h1, h2, h3, h4⟩ := hp
  unfold pB
  omega
theorem pStep_ok (hD : gDo g) (hp : pOK g pl) {d : Nat} (hd : (d : Int) < gN g) : pOK g (pStep g pl d) ∧ (0 ≤ pStep g pl d ∧ pStep g pl d < 420) ∧ pR g (pStep g pl d) = gBy g d (pR g pl) ∧ pL (pStep g pl d) = d ∧ pB (pStep g pl d) = if gL g = 1 then zn4 (pL pl) else -1 := by
  have hN := hD.1
  have hl := pL_b hp
  have e := pStep_eq hD hp hd
  obtain ⟨s1, s2⟩ := pStep_at (g := g) (pl := pl) (k := d) (by omega) (by omega)
  have hb : ∀ x : Int, x = (if gL g = 1 then zn4 (pL pl) else -1) → -1 ≤ x ∧ x < 14 := by
    intro x hx
    rw [hx]
    unfold zn4
    split
    · split <;> omega
    · omega
  have hs : ∀ x : Int, x = (if gA g d = pR g pl then 2 * (d : Int) + 1 else 2 * d) → 2 * (d : Int) ≤ x ∧ x ≤ 2 * d + 1 := by
    intro x hx
    rw [hx]
    split <;> omega
  have hb2 := hb _ rfl
  have hs2 := hs _ rfl
  generalize (if gL g = 1 then zn4 (pL pl) else -1) = na at e hb2
  generalize (if gA g d = pR g pl then 2 * (d : Int) + 1 else 2 * d) = sd at e hs2
  refine ⟨⟨by omega, by omega, fun q => by omega, fun _ => by omega⟩, by omega, s2 g (fun _ _ => rfl), ?_, ?_⟩
  · unfold pL
    rw [if_neg (by omega)]
    omega
  · unfold pB
    omega
theorem bPush_wf {p : Int} (h : bWf g s b) (hk : k < b.1) (hs : pOK g p) (h4 : p < 420) (hn : ¬ bIn b p) : bWf g s (bPush b p k ((b.2 k).2.2 + 1)) := by
  obtain ⟨w0, w1, w2, w3, w4⟩ := h
  have hle := bPush_le (b := b) p k ((b.2 k).2.2 + 1)
  have hat := bPush_at (b := b) (p := p) (f := k) (z := (b.2 k).2.2 + 1)
  have hlt : ∀ i, i < (bPush b p k ((b.2 k).2.2 + 1)).1 → i < b.1 ∨ i = b.1 := fun i hi => by
    have : i < b.1 + 1 := hi
    omega
  refine ⟨Nat.le_trans w0 hle.1, fun i hi => ?_, fun i j hij hj => ?_, fun i hsi hi => ?_, fun i hi => by rw [hle.2 i (by omega)]; exact w4 i hi⟩
  · rcases hlt i hi with q | q
    · rw [hle.2 i q]; exact w1 i q
    · rw [q, hat]
      have := (w1 k hk).2
      exact ⟨hs, by dsimp only; omega⟩
  · rcases hlt j hj with q | q
    · rw [hle.2 j q, hle.2 i (by omega)]
      exact w2 i j hij q
    · rw [q, hat, hle.2 i (by omega)]
      exact fun z => hn ⟨i, by omega, z⟩
  · rcases hlt i hi with q | q
    · have := w3 i hsi q
      rw [hle.2 i q, hle.2 (b.2 i).2.1 (by omega)]
      exact this
    · rw [q, hat]
      dsimp only
      rw [hle.2 k hk]
      exact ⟨h4, hk, rfl⟩
theorem bDo_wf (hD : gDo g) (h : bWf g s b) (hk : k < b.1) {d : Nat} : bWf g s (bDo g k b d) := by
  unfold bDo
  split
  · rename_i q
    obtain ⟨s1, s2, -⟩ := pStep_ok hD (h.2.1 k hk).1 (d := d) q.1.1.1
    exact bPush_wf h hk s1 s2.2 q.2
  · exact h
theorem bSp_wf (hD : gDo g) (h : bWf g s b) (hk : k < b.1) : ∀ d, bWf g s (bSp g k d b)
  | 0 => h
  | d + 1 => bDo_wf hD (bSp_wf hD h hk d) (Nat.lt_of_lt_of_le hk (bSp_le d).1)
theorem bQ_wf (hD : gDo g) (h : bWf g s b) : ∀ k, bWf g s (bQ g b k)
  | 0 => h
  | k + 1 => by
    show bWf g s (if _ then _ else _)
    split
    · rename_i q
      exact bSp_wf hD (bQ_wf hD h k) q _
    · exact bQ_wf hD h k
theorem bWf.sz (h : bWf g s b) : b.1 ≤ 570 := by
  refine zpig 570 b.1 (fun i => (b.2 i).1.toNat) (fun i hi => ?_) (fun i j hij hj => ?_)
  · have := (h.2.1 i hi).1
    have := this.1
    have := (h.2.1 i hi).1.2.1
    skip
    omega
  · have h1 := (h.2.1 i (by omega)).1.1
    have h2 := (h.2.1 j hj).1.1
    have := h.2.2.1 i j hij hj
    skip
    omega
theorem bWf.sz1 (h : bWf g 1 b) : b.1 ≤ 421 := by
  refine zpig 421 b.1 (fun i => if i = 0 then 420 else (b.2 i).1.toNat) (fun i hi => ?_) (fun i j hij hj => ?_)
  · skip
    split
    · omega
    · have := (h.2.2.2.1 i (by omega) hi).1
      omega
  · have h2 := (h.2.1 j hj).1.1
    have h3 := (h.2.2.2.1 j (by omega) hj).1
    have := h.2.2.1 i j hij hj
    skip
    rw [if_neg (show ¬ j = 0 by omega)]
    split
    · omega
    · have h1 := (h.2.1 i (by omega)).1.1
      omega
def bS (pl : Int) : zBf := (1, fun _ => (pl, 0, 0))
theorem bS_in {p : Int} : bIn (bS pl) p ↔ p = pl := by
  constructor
  · rintro ⟨i, hi, e⟩
    exact e.symm
  · intro e
    exact ⟨0, by show 0 < 1; omega, e.symm⟩
theorem bS_wf (hp : pOK g pl) : bWf g 1 (bS pl) := by
  refine ⟨Nat.le_refl _, fun i hi => ⟨hp, ?_⟩, fun i j hij hj => ?_, fun i hs hi => ?_, fun _ _ => rfl⟩
  · show 0 ≤ (0 : Int) ∧ (0 : Int) ≤ i
    omega
  · have : j < 1 := hj
    omega
  · have : i < 1 := hi
    omega
theorem bV0 : bV g (bS pl) 0 := by show 0 < 1; omega
/-- the first entry in a room: its length; none -/
def bAns (g : zPg) (b : zBf) (room v : Int) : Prop := (∃ i, bV g b i ∧ (∀ j, j < i → pR g (bE g b j).1 ≠ room) ∧ pR g (bE g b i).1 = room ∧ v = (bE g b i).2.2) ∨ (∃ K, ¬ bV g b K ∧ (∀ j, j < K → pR g (bE g b j).1 ≠ room) ∧ v = -4)
theorem bAns_fn {room v v' : Int} (h : bAns g b room v) (h' : bAns g b room v') : v = v' := by
  rcases h with ⟨i, a1, a2, a3, a4⟩ | ⟨K, a1, a2, a3⟩ <;> rcases h' with ⟨i', b1, b2, b3, b4⟩ | ⟨K', b1, b2, b3⟩
  · rcases Nat.lt_trichotomy i i' with q | q | q
    · exact absurd a3 (b2 i q)
    · rw [a4, b4, q]
    · exact absurd b3 (a2 i' q)
  · rcases Nat.lt_or_ge i K' with q | q
    · exact absurd a3 (b2 i q)
    · exact absurd (bV_dn a1 q) b1
  · rcases Nat.lt_or_ge i' K with q | q
    · exact absurd b3 (a2 i' q)
    · exact absurd (bV_dn b1 q) a1
  · rw [a3, b3]
/-- the rooms of all entries, as bits -/
def bRm (g : zPg) (b : zBf) (v : Int) : Prop := zI v ∧ ∀ j : Nat, j < 32 → (zB v j ↔ ∃ i, bV g b i ∧ pR g (bE g b i).1 = j)
theorem bRm_fn {v v' : Int} (h : bRm g b v) (h' : bRm g b v') : v = v' := zB_ext h.1 h'.1 (fun j hj => by rw [h.2 j hj, h'.2 j hj])
end
