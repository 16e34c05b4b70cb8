section
variable {d : Nat} {mem : zMem} {Q : Int → zMem → Prop} {g : zPg} {rm : Int}
/-! someone of the page: room, door last taken, the one before it -/
def gR (g : zPg) (p : Nat) : Int := g (57 + 3 * p)
def gT (g : zPg) (p : Nat) : Int := g (58 + 3 * p)
def gU (g : zPg) (p : Nat) : Int := g (59 + 3 * p)
def gWk (g : zPg) (rm : Int) (p : Nat) : Prop := (0 ≤ gR g p ∧ gR g p < rm) ∧ (gT g p = -4 ∨ (0 ≤ gT g p ∧ gT g p < gN g ∧ (gA g (gT g p).toNat = gR g p ∨ gB g (gT g p).toNat = gR g p))) ∧ (gU g p = -4 ∨ (0 ≤ gU g p ∧ gU g p < gN g)) ∧ (gT g p = -4 → gU g p = -4)
def gSd (g : zPg) (p : Nat) : Int := if gT g p ≠ -4 ∧ gB g (gT g p).toNat = gR g p then 1 else 0
def gBf (g : zPg) (p : Nat) : Int := if gL g = 1 then gU g p else -4
def pOf (g : zPg) (p : Nat) : Int := pMk (gR g p) (gT g p) (gBf g p) (gSd g p)
theorem pOf_ok (hD : gDo g) (hrm : rm ≤ 10) {p : Nat} (hW : gWk g rm p) : pOK g (pOf g p) ∧ pR g (pOf g p) = gR g p ∧ pL (pOf g p) = gT g p ∧ pB (pOf g p) = (if gBf g p = -4 then -1 else gBf g p) := by
  obtain ⟨hr, ht, hu, htu⟩ := hW
  have hN := hD.1
  have hb : gBf g p = -4 ∨ (0 ≤ gBf g p ∧ gBf g p < gN g) := by
    unfold gBf; split
    · exact hu
    · exact Or.inl rfl
  have hb4 : gT g p = -4 → gBf g p = -4 := by
    intro q; unfold gBf; split
    · exact htu q
    · rfl
  have hs : gSd g p = 0 ∨ gSd g p = 1 := by
    unfold gSd; split
    · exact Or.inr rfl
    · exact Or.inl rfl
  unfold pOf pOK pR pL pB pMk
  rcases ht with ht | ⟨t1, t2, t3⟩
  · rw [if_pos ht, if_pos (hb4 ht), if_pos (hb4 ht)]
    refine ⟨⟨by omega, by omega, fun _ => by omega, fun _ => by omega⟩, ?_, ?_, by omega⟩
    · rw [if_pos (by omega)]; omega
    · rw [if_pos (by omega), ht]
  · rw [if_neg (show ¬ gT g p = -4 by omega)]
    have hsd : (gSd g p = 0 → gA g (gT g p).toNat = gR g p) ∧ (gSd g p = 1 → gB g (gT g p).toNat = gR g p) := by
      unfold gSd
      constructor
      · intro q
        split at q
        · omega
        · rename_i hn
          rcases t3 with t3 | t3
          · exact t3
          · exact absurd ⟨by omega, t3⟩ hn
      · intro q
        split at q
        · rename_i hn; exact hn.2
        · omega
    have hx : ∀ bb : Int, 0 ≤ bb → bb < 15 → (15 * (2 * gT g p + gSd g p) + bb) / 15 = 2 * gT g p + gSd g p ∧ (15 * (2 * gT g p + gSd g p) + bb) / 30 = gT g p ∧ (15 * (2 * gT g p + gSd g p) + bb) % 15 = bb := by
      intro bb b0 b1
      omega
    have hbb : ∀ bb, bb = (if gBf g p = -4 then 0 else gBf g p + 1) → 0 ≤ bb ∧ bb < 15 ∧ bb - 1 = (if gBf g p = -4 then -1 else gBf g p) := by
      intro bb e
      rw [e]
      by_cases q : gBf g p = -4
      · rw [if_pos q, if_pos q]; omega
      · rw [if_neg q, if_neg q]; omega
    generalize hbe : (if gBf g p = -4 then 0 else gBf g p + 1) = bb
    obtain ⟨b0, b1, b2⟩ := hbb bb hbe.symm
    obtain ⟨x1, x2, x3⟩ := hx bb b0 b1
    rw [x1, x2, x3, ← b2]
    refine ⟨⟨by omega, by omega, fun q => by omega, fun _ => t2⟩, ?_, ?_, rfl⟩
    · rw [if_neg (by omega)]
      rcases hs with q | q
      · rw [q, ← hsd.1 q]; unfold gA; congr 1; omega
      · rw [q, ← hsd.2 q]; unfold gB; congr 1; omega
    · rw [if_neg (by omega)]
/-- what one may take from where one stands is what the class finds with -1 for none -/
theorem pOf_may (hD : gDo g) (hrm : rm ≤ 10) {p : Nat} (hW : gWk g rm p) (k : Nat) : pMay g (pOf g p) k ↔ gMay g (gR g p) (if gT g p = -4 then -1 else gT g p) (if gU g p = -4 then -1 else gU g p) k := by
  obtain ⟨-, h1, h2, h3⟩ := pOf_ok hD hrm hW
  unfold pMay gMay
  rw [h1, h2, h3]
  refine and_congr Iff.rfl (not_congr ?_)
  unfold gBar gBf
  by_cases q : gT g p = -4
  · rw [if_pos q, q]
    constructor <;> (rintro ⟨q1, -⟩; omega)
  · rw [if_neg q]
    by_cases ql : gL g = 1
    · rw [if_pos ql]
    · rw [if_neg ql, if_pos rfl]
      constructor <;> (rintro ⟨q1, q2⟩; exact ⟨q1, by omega⟩)
theorem c_Mo_placeOfOne (hD : gDo (mem 123)) (hrm : rm ≤ 10) {a : Int} (ha : 0 ≤ a ∧ a < 5) (hW : gWk (mem 123) rm a.toNat) (hQ : Q (pOf (mem 123) a.toNat) mem) : zC (d + 2) K_Mo_placeOfOne [(2, Int.ofNat 122), (0, a)] mem Q := by
  obtain ⟨hr, ht, hu, htu⟩ := id hW
  have hN := hD.1
  have i1 : zmul 3 a = 3 * a := zmul_n (by unfold zI; omega)
  have i2 : zadd 57 (3 * a) = 57 + 3 * a := zadd_n (by unfold zI; omega)
  have i3 : zadd (57 + 3 * a) 1 = 57 + 3 * a + 1 := zadd_n (by unfold zI; omega)
  have i4 : zadd (57 + 3 * a) 2 = 57 + 3 * a + 2 := zadd_n (by unfold zI; omega)
  have leaf : ∀ x1 x2 b s : Int, x1 = gR (mem 123) a.toNat → x2 = gT (mem 123) a.toNat → b = gBf (mem 123) a.toNat → s = gSd (mem 123) a.toNat → zC (d + 1) K_Mo_placeOf [(0, x1), (0, x2), (0, b), (0, s)] mem (fun r m => Q r m) := by
    intro x1 x2 b s e1 e2 e3 e4
    subst e1; subst e2; subst e3; subst e4
    refine c_Mo_placeOf (d := d) ⟨hr.1, by omega⟩ (by omega) ?_ ?_ hQ
    · unfold gBf; split
      · omega
      · exact Or.inl rfl
    · unfold gSd; split <;> omega
  refine v_Mo_placeOfOne ?_
  rw [i1, i2, i3, i4, show (57 + 3 * a).toNat = 57 + 3 * a.toNat by omega, show (57 + 3 * a + 1).toNat = 58 + 3 * a.toNat by omega, show (57 + 3 * a + 2).toNat = 59 + 3 * a.toNat by omega]
  have f1 : ∀ s x1 x2 : Int, x1 = gR (mem 123) a.toNat → x2 = gT (mem 123) a.toNat → s = gSd (mem 123) a.toNat → (mem 123 73 ≠ 1 → zC (d + 1) K_Mo_placeOf [(0, x1), (0, x2), (0, -4), (0, s)] mem (fun r3 m1 => Q r3 m1)) ∧ (mem 123 73 = 1 → ((0 ≤ 57 + 3 * a + 2 ∧ 57 + 3 * a + 2 < 264) ∧ zC (d + 1) K_Mo_placeOf [(0, x1), (0, x2), (0, mem 123 (59 + 3 * a.toNat)), (0, s)] mem (fun r4 m2 => Q r4 m2))) := by
    intro s x1 x2 e1 e2 e3
    refine ⟨fun c => leaf _ _ _ _ e1 e2 ?_ e3, fun c => ⟨by omega, leaf _ _ _ _ e1 e2 ?_ e3⟩⟩
    · unfold gBf; rw [if_neg (show ¬ gL (mem 123) = 1 from c)]
    · unfold gBf; rw [if_pos (show gL (mem 123) = 1 from c)]; rfl
  refine ⟨by omega, fun x1 e1 => ⟨by omega, fun x2 e2 => ⟨fun c1 => f1 0 x1 x2 e1 e2 ?_, fun c1 => ?_⟩⟩⟩
  · unfold gSd; rw [if_neg (fun q => q.1 (e2.symm.trans c1))]
  · have hx : 0 ≤ x2 ∧ x2 < gN (mem 123) := by
      have e2 : x2 = gT (mem 123) a.toNat := e2
      omega
    have j1 : zmul 4 x2 = 4 * x2 := zmul_n (by unfold zI; omega)
    have j2 : zadd (4 * x2) 1 = 4 * x2 + 1 := zadd_n (by unfold zI; omega)
    rw [j1, j2, show (4 * x2 + 1).toNat = 4 * x2.toNat + 1 by omega]
    refine ⟨by omega, fun c2 => f1 0 x1 x2 e1 e2 ?_, fun c2 => f1 1 x1 x2 e1 e2 ?_⟩
    · unfold gSd
      rw [if_neg]
      rintro ⟨-, q⟩
      apply c2
      rw [e1, e2]
      exact q
    · unfold gSd
      rw [if_pos]
      refine ⟨fun q => c1 (e2.trans q), ?_⟩
      rw [e1, e2] at c2
      exact c2
end
