section
variable {d w : Nat} {mem m' : zMem} {Q : Int → zMem → Prop} {R S : zMem → Prop} {g g' : zPg} {rm : Int}
/-- two pages with the same house -/
def gEq (g g' : zPg) : Prop := (∀ i, i < 57 → g' i = g i) ∧ g' 73 = g 73
theorem gEq.N (h : gEq g g') : gN g' = gN g := h.1 56 (by omega)
theorem gEq.L (h : gEq g g') : gL g' = gL g := h.2
theorem gEq.at (h : gEq g g') {k : Nat} (hk : k < 14) : gA g' k = gA g k ∧ gB g' k = gB g k ∧ gC g' k = gC g k ∧ gX g' k = gX g k := ⟨h.1 _ (by omega), h.1 _ (by omega), h.1 _ (by omega), h.1 _ (by omega)⟩
theorem gEq.Do (h : gEq g g') (hD : gDo g) : gDo g' := by
  obtain ⟨h1, h2, h3⟩ := hD
  refine ⟨by rw [h.N]; exact h1, by rw [h.L]; exact h2, fun k hk => ?_⟩
  rw [h.N] at hk
  obtain ⟨e1, e2, e3, e4⟩ := h.at (k := k) (by omega)
  rw [e1, e2, e3, e4]
  exact h3 k hk
theorem gEq.O (h : gEq g g') (hN : gN g ≤ 14) (r : Int) (k : Nat) : gO g' r k ↔ gO g r k := by
  unfold gO
  rw [h.N]
  by_cases hk : (k : Int) < gN g
  · obtain ⟨e1, e2, e3, e4⟩ := h.at (k := k) (by omega)
    rw [e1, e2, e4]
  · exact ⟨fun q => absurd q.1 hk, fun q => absurd q.1 hk⟩
theorem gEq.Hs (h : gEq g g') (hN : gN g ≤ 14) {x : Nat} (hm : ∀ k, x ≤ k → k ≤ x + 5 → m' k = mem k) (hH : Hs mem x g rm) : Hs m' x g' rm := by
  obtain ⟨h0, h1, h2, h3, h4, h5, h6⟩ := hH
  refine ⟨?_, ?_, ?_, fun k hk => ?_, fun k hk => ?_, fun r hr k hk => ?_, fun c hc k hk => ?_⟩
  · rw [hm x (by omega) (by omega)]; exact h0
  · rw [hm x (by omega) (by omega), h.L]; exact h1
  · rw [hm x (by omega) (by omega), h.N]; exact h2
  · rw [hm x (by omega) (by omega), h3 k hk, h.N]
    by_cases q : (k : Int) < gN g
    · rw [(h.at (k := k) (by omega)).2.2.2]
    · exact ⟨fun z => absurd z.1 q, fun z => absurd z.1 q⟩
  · rw [h.N] at hk
    obtain ⟨e1, e2, e3, e4⟩ := h.at (k := k) (by omega)
    rw [e1, e2, e3, hm (x + 1) (by omega) (by omega), hm (x + 2) (by omega) (by omega), hm (x + 3) (by omega) (by omega)]
    exact h4 k hk
  · rw [hm (x + 4) (by omega) (by omega), h5 r hr k hk, h.O hN]
  · rw [hm (x + 5) (by omega) (by omega), h6 c hc k hk, h.N]
    by_cases q : (k : Int) < gN g
    · rw [(h.at (k := k) (by omega)).2.2.1]
    · exact ⟨fun z => absurd z.1 q, fun z => absurd z.1 q⟩
/-- the palace that stands: the page and the class agree -/
def Ipal (mem : zMem) : Prop := gWf (mem 123) (mem 122 1) ∧ Ps mem 1 (mem 123) (mem 122 1)
/-- someone of the page is set anew -/
def gPut (g : zPg) (p : Nat) (r t u : Int) : zPg := fun i => if i = 57 + 3 * p then r else if i = 58 + 3 * p then t else if i = 59 + 3 * p then u else g i
theorem gPut_eq {p : Nat} (hp : p < 5) {r t u : Int} : gEq g (gPut g p r t u) ∧ gP (gPut g p r t u) = gP g ∧ gW (gPut g p r t u) = gW g := by
  unfold gPut
  refine ⟨⟨fun i hi => ?_, ?_⟩, ?_, ?_⟩
  · dsimp only; rw [if_neg (by omega), if_neg (by omega), if_neg (by omega)]
  · dsimp only; rw [if_neg (by omega), if_neg (by omega), if_neg (by omega)]
  · show (if 72 = 57 + 3 * p then r else if 72 = 58 + 3 * p then t else if 72 = 59 + 3 * p then u else g 72) = g 72
    rw [if_neg (by omega), if_neg (by omega), if_neg (by omega)]
  · show (if 86 = 57 + 3 * p then r else if 86 = 58 + 3 * p then t else if 86 = 59 + 3 * p then u else g 86) = g 86
    rw [if_neg (by omega), if_neg (by omega), if_neg (by omega)]
theorem gPut_at {p : Nat} {r t u : Int} (i : Nat) : (i = p → gR (gPut g p r t u) i = r ∧ gT (gPut g p r t u) i = t ∧ gU (gPut g p r t u) i = u) ∧ (i ≠ p → gR (gPut g p r t u) i = gR g i ∧ gT (gPut g p r t u) i = gT g i ∧ gU (gPut g p r t u) i = gU g i) := by
  refine ⟨fun e => ?_, fun e => ?_⟩
  · subst e
    unfold gR gT gU gPut
    refine ⟨by rw [if_pos rfl], by rw [if_neg (by omega), if_pos rfl], by rw [if_neg (by omega), if_neg (by omega), if_pos rfl]⟩
  · unfold gR gT gU gPut
    refine ⟨by rw [if_neg (by omega), if_neg (by omega), if_neg (by omega)], by rw [if_neg (by omega), if_neg (by omega), if_neg (by omega)], by rw [if_neg (by omega), if_neg (by omega), if_neg (by omega)]⟩
/-- someone is set anew on both sides -/
theorem Ipal.put {p : Nat} (hI : Ipal mem) (hp : (p : Int) < gP (mem 123)) {r t u : Int} (hk : gWk (gPut (mem 123) p r t u) (mem 122 1) p) (h1 : m' 123 = gPut (mem 123) p r t u) (h2 : Ws m' (9 + p) r t u) (h3 : ∀ k, k ≠ 123 → k ≠ 9 + p → m' k = mem k) : Ipal m' := by
  obtain ⟨⟨w1, w2, w3, w4, w5, w6⟩, p1, p2, p3, p4, p5⟩ := hI
  obtain ⟨e1, e2, e3⟩ := gPut_eq (g := mem 123) (p := p) (by omega) (r := r) (t := t) (u := u)
  have hN := w1.1
  have hr : m' 122 1 = mem 122 1 := by rw [h3 122 (by omega) (by omega)]
  unfold Ipal
  rw [hr, h1]
  refine ⟨⟨e1.Do w1, w2, fun k hk => ?_, by rw [e2]; exact w4, fun i hi => ?_, by rw [e3]; exact w6.1, fun i hi => ?_⟩, e1.Hs hN.2 (fun k _ _ => h3 k (by omega) (by omega)) p1, ?_, fun i hi => ?_, ?_, fun i hi => ?_⟩
  · rw [e1.N] at hk
    obtain ⟨a1, a2, -, -⟩ := e1.at (k := k) (by omega)
    rw [a1, a2]
    exact w3 k hk
  · rw [e2] at hi
    by_cases q : i = p
    · rw [q]; exact hk
    · obtain ⟨a1, a2, a3⟩ := (gPut_at (g := mem 123) (p := p) (r := r) (t := t) (u := u) i).2 q
      obtain ⟨b1, b2, b3, b4⟩ := w5 i hi
      unfold gWk
      rw [a1, a2, a3, e1.N]
      refine ⟨b1, ?_, b3, b4⟩
      rcases b2 with b2 | ⟨b2, b2', b2''⟩
      · exact Or.inl b2
      · obtain ⟨c1, c2, -, -⟩ := e1.at (k := (gT (mem 123) i).toNat) (by omega)
        rw [c1, c2]
        exact Or.inr ⟨b2, b2', b2''⟩
  · rw [e3] at hi
    have hw : gPut (mem 123) p r t u (74 + i) = mem 123 (74 + i) := by
      unfold gPut
      rw [if_neg (by omega), if_neg (by omega), if_neg (by omega)]
    rw [hw, e1.N]
    exact w6.2 i hi
  · rw [h3 1 (by omega) (by omega), e2]; exact p2
  · rw [e2] at hi
    by_cases q : i = p
    · obtain ⟨a1, a2, a3⟩ := (gPut_at (g := mem 123) (p := p) (r := r) (t := t) (u := u) i).1 q
      rw [a1, a2, a3, q]
      exact h2
    · obtain ⟨a1, a2, a3⟩ := (gPut_at (g := mem 123) (p := p) (r := r) (t := t) (u := u) i).2 q
      rw [a1, a2, a3]
      have := p3 i hi
      unfold Ws at this ⊢
      rw [h3 (1 + 8 + i) (by omega) (by omega)]
      exact this
  · rw [h3 1 (by omega) (by omega), e3]; exact p4
  · rw [e3] at hi
    have := p5 i hi
    have hw : gPut (mem 123) p r t u (74 + i) = mem 123 (74 + i) := by
      unfold gPut
      rw [if_neg (by omega), if_neg (by omega), if_neg (by omega)]
    rw [hw, h3 (1 + 13) (by omega) (by omega)]
    exact this
end
