section
/-! palace: lines. -/
variable {d w : Nat} {mem m m' m2 : zMem} {Q : Int → zMem → Prop} {b : Nat → Int} {L i j : Nat} {lo hi : Int} {g : zPg} {rm hR hL ws : Int}
def bnd {α β γ : Type} (x : Sum α β) (f : β → Sum α γ) : Sum α γ :=
  match x with
  | .inl a => .inl a
  | .inr y => f y
def gOne (g : zPg) (r : Int) : zPg := fun i => if i = 57 + 3 * (gP g).toNat then r else if i = 58 + 3 * (gP g).toNat then -4 else if i = 59 + 3 * (gP g).toNat then -4 else if i = 72 then gP g + 1 else g i
def gLw (g : zPg) (v : Int) : zPg := fun i => if i = 73 then v else g i
/-- what was read so far: a page, rooms, whether rooms and law were told, walls -/
abbrev zPD : Type := zPg × Int × Int × Int × Int
noncomputable def colF (b : Nat → Int) (s e : Nat) : Int := @ite Int (wd b s e 5) (Classical.propDecidable _) 1 (@ite Int (wd b s e 6) (Classical.propDecidable _) 2 (@ite Int (wd b s e 7) (Classical.propDecidable _) 3 0))
/-- the end of a door's line -/
noncomputable def endF (b : Nat → Int) (L i : Nat) : Sum (Int × Nat) (Int × Nat) :=
  if tkK b L i = 2 then (if colF b (tkS b L i) (tkE b L i) = 0 then .inl (2, tkS b L i) else bnd (sgnF b L (tkE b L i)) (fun j => .inr (colF b (tkS b L i) (tkE b L i), j)))
  else bnd (sgnF b L i) (fun j => .inr (0, j))
def roomsF (b : Nat → Int) (L i : Nat) (st : zPD) : Sum (Int × Nat) (Nat × zPD) :=
  if st.2.2.1 ≠ 0 then .inl (4, tkS b L i) else bnd (numF b L (tkE b L i) 2 10) (fun v => bnd (sgnF b L v.2) (fun j => .inr (j, (st.1, v.1, 1, st.2.2.2.1, st.2.2.2.2))))
def lawF (b : Nat → Int) (L i : Nat) (st : zPD) : Sum (Int × Nat) (Nat × zPD) :=
  if st.2.2.2.1 ≠ 0 then .inl (4, tkS b L i) else bnd (numF b L (tkE b L i) 0 3) (fun v => bnd (sgnF b L v.2) (fun j => .inr (j, (gLw st.1 v.1, st.2.1, st.2.2.1, 1, st.2.2.2.2))))
noncomputable def doorF (b : Nat → Int) (L i : Nat) (st : zPD) : Sum (Int × Nat) (Nat × zPD) :=
  if 14 ≤ gN st.1 then .inl (5, tkS b L i) else bnd (numF b L (tkE b L i) 0 9) (fun v => bnd (numF b L v.2 0 9) (fun u => if v.1 = u.1 then .inl (4, tkS b L v.2) else bnd (endF b L u.2) (fun c => .inr (c.2, (gAdd st.1 v.1 u.1 c.1, st.2)))))
def oneF (b : Nat → Int) (L i : Nat) (st : zPD) : Sum (Int × Nat) (Nat × zPD) :=
  if 5 ≤ gP st.1 then .inl (5, tkS b L i) else bnd (numF b L (tkE b L i) 0 9) (fun v => bnd (sgnF b L v.2) (fun j => .inr (j, (gOne st.1 v.1, st.2))))
def wallF (b : Nat → Int) (L i : Nat) (st : zPD) : Sum (Int × Nat) (Nat × zPD) :=
  bnd (numF b L (tkE b L i) 0 13) (fun v => if zand (zshr st.2.2.2.2 v.1) 1 ≠ 0 then .inl (4, tkS b L (tkE b L i)) else bnd (sgnF b L v.2) (fun j => .inr (j, (st.1, st.2.1, st.2.2.1, st.2.2.2.1, zor st.2.2.2.2 (zshl 1 v.1)))))
/-- one line from a token on -/
noncomputable def lnF (b : Nat → Int) (L i : Nat) (st : zPD) : Sum (Int × Nat) (Nat × zPD) :=
  if tkK b L i = 0 then .inl (1, tkS b L i) else if tkK b L i ≠ 2 then .inl (2, tkS b L i)
  else @ite _ (wd b (tkS b L i) (tkE b L i) 0) (Classical.propDecidable _) (roomsF b L i st) (@ite _ (wd b (tkS b L i) (tkE b L i) 1) (Classical.propDecidable _) (lawF b L i st) (@ite _ (wd b (tkS b L i) (tkE b L i) 2) (Classical.propDecidable _) (doorF b L i st) (@ite _ (wd b (tkS b L i) (tkE b L i) 3) (Classical.propDecidable _) (oneF b L i st) (@ite _ (wd b (tkS b L i) (tkE b L i) 4) (Classical.propDecidable _) (wallF b L i st) (.inl (2, tkS b L i))))))
/-- a page that is being read -/
def pdW (st : zPD) : Prop := gDo st.1 ∧ (2 ≤ st.2.1 ∧ st.2.1 ≤ 10) ∧ (0 ≤ gP st.1 ∧ gP st.1 ≤ 5) ∧ gW st.1 = 0 ∧ (∀ k : Nat, (k : Int) < gN st.1 → gX st.1 k = 0) ∧ (∀ p : Nat, (p : Int) < gP st.1 → (0 ≤ gR st.1 p ∧ gR st.1 p < 10) ∧ gT st.1 p = -4 ∧ gU st.1 p = -4) ∧ (st.2.2.1 = 0 ∨ st.2.2.1 = 1) ∧ (st.2.2.2.1 = 0 ∨ st.2.2.2.1 = 1) ∧ (0 ≤ st.2.2.2.2 ∧ st.2.2.2.2 < 16384)
/-- the class's draft -/
def cD (m : zMem) (st : zPD) : Prop := Ps m 55 st.1 st.2.1 ∧ m 53 10 = st.2.2.1 ∧ m 53 11 = st.2.2.2.1 ∧ m 53 12 = st.2.2.2.2
def dFr (mem m' : zMem) : Prop := (∀ k, k < 53 ∨ k = 54 ∨ 68 < k → m' k = mem k) ∧ m' 53 2 = mem 53 2 ∧ m' 53 3 = mem 53 3
theorem dFr.refl : dFr mem mem := ⟨fun _ _ => rfl, rfl, rfl⟩
theorem dFr.trans (h : dFr mem m') (h' : dFr m' m2) : dFr mem m2 := ⟨fun k k1 => by rw [h'.1 k k1, h.1 k k1], by rw [h'.2.1, h.2.1], by rw [h'.2.2, h.2.2]⟩
theorem cFr.df (h : cFr mem m') : dFr mem m' := ⟨fun k hk => h.1 k (by omega), h.2 2 (by omega), h.2 3 (by omega)⟩
theorem cB.df (h : cB mem b L) (hf : dFr mem m') : cB m' b L := by
  unfold cB at h ⊢
  rw [hf.2.1, hf.1 54 (by omega)]
  exact h
theorem cD.c {st : zPD} (h : cD mem st) (hW : pdW st) (hf : cFr mem m') : cD m' st := by
  obtain ⟨a1, a2, a3, a4⟩ := h
  refine ⟨?_, by rw [hf.2 10 (by omega), a2], by rw [hf.2 11 (by omega), a3], by rw [hf.2 12 (by omega), a4]⟩
  have e : ∀ k, 55 ≤ k → m' k = mem k := fun k hk => hf.1 k (by omega)
  obtain ⟨h1, h2, h3, h4, h5⟩ := a1
  refine ⟨h1.fr (fun k k1 k2 => e k (by omega)), by rw [e 55 (by omega)]; exact h2, fun i hi => ?_, by rw [e 55 (by omega)]; exact h4, fun i hi => by rw [e _ (by omega)]; exact h5 i hi⟩
  have := h3 i hi
  unfold Ws at this ⊢
  rw [e _ (by omega)]
  exact this
theorem c_Ta_takeRooms {st : zPD} (hB : cB mem b L) (hi : i ≤ L) (h7 : mem 53 7 = (tkS b L i : Int)) (h6 : mem 53 6 = (tkE b L i : Int)) (h4 : mem 53 4 = 0) (hW : pdW st) (hd : cD mem st) (hQe : ∀ c p, roomsF b L i st = .inl (c, p) → ∀ m' : zMem, m' 53 4 = c → m' 53 5 = (p : Int) → dFr mem m' → Q 0 m') (hQk : ∀ j st', roomsF b L i st = .inr (j, st') → ∀ m' : zMem, cD m' st' → pdW st' → m' 53 6 = (j : Int) → m' 53 4 = 0 → dFr mem m' → Q 1 m') : zC (d + 5) K_Ta_takeRooms [(2, Int.ofNat 53)] mem Q := by
  obtain ⟨d1, d2, d3, d4⟩ := id hd
  have hle := tk_le (b := b) hi
  refine v_Ta_takeRooms ?_
  rw [d2, h7]
  refine ⟨fun c1 m1 e1 => ?_, fun c1 => c_Ta_refuse (d := d + 3) (fun m2 q1 q2 q3 q4 => ⟨Or.inl rfl, hQe 4 (tkS b L i) (by unfold roomsF; rw [if_pos c1]) m2 (q2 h4).1 (q2 h4).2 (cFr.df ⟨q3, fun x hx => q4 x (by omega) (by omega)⟩)⟩)⟩
  have f1 : dFr mem m1 := ⟨fun k hk => by funext x; rw [e1, zup_k (by omega)], by rw [e1, zup_j (by omega)], by rw [e1, zup_j (by omega)]⟩
  have hR : roomsF b L i st = bnd (numF b L (tkE b L i) 2 10) (fun v => bnd (sgnF b L v.2) (fun j => .inr (j, (st.1, v.1, 1, st.2.2.2.1, st.2.2.2.2)))) := by unfold roomsF; rw [if_neg (fun z => z c1)]
  refine c_Ta_takeNumber (d := d) (hB.df f1) (i := tkE b L i) hle.2.2.1 (by rw [e1, zup_j (by omega), h6]) (by rw [e1, zup_j (by omega), h4]) (fun c p hn m2 a1 a2 a3 => ⟨fun q => absurd rfl q, fun _ => hQe c p (by rw [hR, hn]; rfl) m2 a1 a2 (f1.trans a3.df)⟩) (fun v j hn m2 a1 a2 a3 a4 a5 => ⟨fun _ m3 e3 => ?_, fun q => absurd q (by decide)⟩)
  rw [a1] at e3
  have f3 : dFr mem m3 := (f1.trans a5.df).trans ⟨fun k hk => by funext x; rw [e3, zup_k (by omega)], by rw [e3, zup_k (by omega)], by rw [e3, zup_k (by omega)]⟩
  have hv := numF_r hn
  have hj : j ≤ L := by rw [hv.2.2.2]; exact (tk_le hle.2.2.1).2.2.1
  refine c_Ta_takeSign (d := d) (hB.df f3) (i := j) hj (by rw [e3, zup_k (by omega), a2]) (by rw [e3, zup_k (by omega), a3]) (fun c p hs m4 b1 b2 b3 => ⟨Or.inl rfl, hQe c p (by rw [hR, hn]; show bnd (sgnF b L j) _ = _; rw [hs]; rfl) m4 b1 b2 (f3.trans b3.df)⟩) (fun j' hs m4 b1 b2 b3 => ⟨Or.inr rfl, hQk j' _ (by rw [hR, hn]; show bnd (sgnF b L j) _ = _; rw [hs]; rfl) m4 ?_ ?_ b1 b2 (f3.trans b3.df)⟩)
  · have hW' : pdW (st.1, v, 1, st.2.2.2.1, st.2.2.2.2) := by
      obtain ⟨x1, x2, x3, x4, x5, x6, x7, x8, x9⟩ := hW
      exact ⟨x1, hv.2.1, x3, x4, x5, x6, Or.inr rfl, x8, x9⟩
    refine cD.c ?_ hW' b3
    have e12 : ∀ k, 55 ≤ k → m2 k = mem k := fun k hk => by rw [a5.1 k (by omega)]; funext x; rw [e1, zup_k (by omega)]
    obtain ⟨h1, h2, h3, h4, h5⟩ := d1
    obtain ⟨y1, y2, y3, y4, y5, y6, y7⟩ := h1
    have e3k : ∀ k, 57 ≤ k → m3 k = mem k := fun k hk => by funext x; rw [e3, zup_k (by omega), e12 k (by omega)]
    have e356 : ∀ x, x ≠ 0 → m3 56 x = mem 56 x := fun x hx => by rw [e3, zup_j hx, e12 56 (by omega)]
    have e355 : m3 55 = mem 55 := by funext x; rw [e3, zup_k (by omega), e12 55 (by omega)]
    refine ⟨⟨⟨?_, ?_, ?_, ?_, ?_, ?_, ?_⟩, ?_, fun p hp => ?_, ?_, fun p hp => ?_⟩, ?_, ?_, ?_⟩
    · show m3 56 0 = v
      rw [e3, zup_e]
    · show m3 56 1 = _
      rw [e356 1 (by omega)]; exact y2
    · show m3 56 2 = _
      rw [e356 2 (by omega)]; exact y3
    · show ∀ k, k < 32 → (zB (m3 56 3) k ↔ _)
      rw [e356 3 (by omega)]; exact y4
    · show ∀ k : Nat, (k : Int) < gN st.1 → m3 57 k = _ ∧ m3 58 k = _ ∧ m3 59 k = _
      rw [e3k 57 (by omega), e3k 58 (by omega), e3k 59 (by omega)]; exact y5
    · show ∀ r : Nat, r < 10 → ∀ k, k < 32 → (zB (m3 60 r) k ↔ _)
      rw [e3k 60 (by omega)]; exact y6
    · show ∀ c : Nat, c < 4 → ∀ k, k < 32 → (zB (m3 61 c) k ↔ _)
      rw [e3k 61 (by omega)]; exact y7
    · show m3 55 2 = _
      rw [e355]; exact h2
    · have := h3 p hp
      unfold Ws at this ⊢
      rw [e3k _ (by omega)]
      exact this
    · show m3 55 4 = _
      rw [e355]; exact h4
    · show m3 (55 + 13) p = _
      rw [e3k _ (by omega)]; exact h5 p hp
    · show m3 53 10 = 1
      rw [e3, zup_k (by omega), a5.2 10 (by omega), e1, zup_e]
    · show m3 53 11 = _
      rw [e3, zup_k (by omega), a5.2 11 (by omega), e1, zup_j (by omega)]; exact d3
    · show m3 53 12 = _
      rw [e3, zup_k (by omega), a5.2 12 (by omega), e1, zup_j (by omega)]; exact d4
  · obtain ⟨x1, x2, x3, x4, x5, x6, x7, x8, x9⟩ := hW
    exact ⟨x1, hv.2.1, x3, x4, x5, x6, Or.inr rfl, x8, x9⟩
end
