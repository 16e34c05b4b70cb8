section
/-! palace: a line of the class. -/
variable {d w : Nat} {mem m m' m2 : zMem} {Q : Int → zMem → Prop} {b : Nat → Int} {L i j : Nat}
theorem c_Ta_takeLine {st : zPD} (hB : cB mem b L) (hi : i ≤ L) (ht : cTk mem b L i) (hW : pdW st) (hd : cD mem st) (hQe : ∀ c p, lnF b L i st = .inl (c, p) → ∀ m' : zMem, m' 53 4 = c → m' 53 5 = (p : Int) → dFr mem m' → Q 0 m') (hQk : ∀ j st', lnF b L i st = .inr (j, st') → ∀ m' : zMem, cD m' st' → pdW st' → m' 53 6 = (j : Int) → m' 53 4 = 0 → dFr mem m' → Q 1 m') : zC (d + 7) K_Ta_takeLine [(2, Int.ofNat 53)] mem Q := by
  obtain ⟨t7, t8, tk, tv, t0⟩ := id ht
  have hle := tk_le (b := b) hi
  have hse : tkS b L i ≤ tkE b L i ∧ tkE b L i ≤ L := ⟨hle.2.1, hle.2.2.1⟩
  have h6 : mem 53 8 = 2 → mem 53 6 = (tkE b L i : Int) := fun z => (tk (by omega)).1
  have k2 : mem 53 8 = 2 → tkK b L i = 2 := fun z => by omega
  have base : tkK b L i = 2 → lnF b L i st = @ite _ (wd b (tkS b L i) (tkE b L i) 0) (Classical.propDecidable _) (roomsF b L i st) (@ite _ (wd b (tkS b L i) (tkE b L i) 1) (Classical.propDecidable _) (lawF b L i st) (@ite _ (wd b (tkS b L i) (tkE b L i) 2) (Classical.propDecidable _) (doorF b L i st) (@ite _ (wd b (tkS b L i) (tkE b L i) 3) (Classical.propDecidable _) (oneF b L i st) (@ite _ (wd b (tkS b L i) (tkE b L i) 4) (Classical.propDecidable _) (wallF b L i st) (.inl (2, tkS b L i)))))) := fun z => by
    unfold lnF
    rw [if_neg (by omega), if_neg (fun y => y z)]
  refine v_Ta_takeLine (c_Ta_isWord (d := d + 2) (k := 0) (by omega) hB hse t7 h6 (fun z w => ⟨fun q => absurd q (by decide), fun _ => ?_⟩) (fun w0 => ⟨fun _ => ?_, fun q => absurd rfl q⟩))
  · have e : lnF b L i st = roomsF b L i st := by rw [base (k2 z), if_pos w]
    obtain ⟨u6, u4⟩ := tk (by have := k2 z; omega)
    exact c_Ta_takeRooms (d := d + 1) hB hi t7 u6 u4 hW hd (fun c p h m1 a1 a2 a3 => ⟨Or.inl rfl, hQe c p (by rw [e, h]) m1 a1 a2 a3⟩) (fun j st' h m1 a1 a2 a3 a4 a5 => ⟨Or.inr rfl, hQk j st' (by rw [e, h]) m1 a1 a2 a3 a4 a5⟩)
  refine c_Ta_isWord (d := d + 2) (k := 1) (by omega) hB hse t7 h6 (fun z w => ⟨fun q => absurd q (by decide), fun _ => ?_⟩) (fun w1 => ⟨fun _ => ?_, fun q => absurd rfl q⟩)
  · have e : lnF b L i st = lawF b L i st := by rw [base (k2 z), if_neg (fun y => w0 ⟨z, y⟩), if_pos w]
    obtain ⟨u6, u4⟩ := tk (by have := k2 z; omega)
    exact c_Ta_takeLaw (d := d + 1) hB hi t7 u6 u4 hW hd (fun c p h m1 a1 a2 a3 => ⟨Or.inl rfl, hQe c p (by rw [e, h]) m1 a1 a2 a3⟩) (fun j st' h m1 a1 a2 a3 a4 a5 => ⟨Or.inr rfl, hQk j st' (by rw [e, h]) m1 a1 a2 a3 a4 a5⟩)
  refine c_Ta_isWord (d := d + 2) (k := 2) (by omega) hB hse t7 h6 (fun z w => ⟨fun q => absurd q (by decide), fun _ => ?_⟩) (fun w2 => ⟨fun _ => ?_, fun q => absurd rfl q⟩)
  · have e : lnF b L i st = doorF b L i st := by rw [base (k2 z), if_neg (fun y => w0 ⟨z, y⟩), if_neg (fun y => w1 ⟨z, y⟩), if_pos w]
    obtain ⟨u6, u4⟩ := tk (by have := k2 z; omega)
    exact c_Ta_takeDoor (d := d) hB hi t7 u6 u4 hW hd (fun c p h m1 a1 a2 a3 => ⟨Or.inl rfl, hQe c p (by rw [e, h]) m1 a1 a2 a3⟩) (fun j st' h m1 a1 a2 a3 a4 a5 => ⟨Or.inr rfl, hQk j st' (by rw [e, h]) m1 a1 a2 a3 a4 a5⟩)
  refine c_Ta_isWord (d := d + 2) (k := 3) (by omega) hB hse t7 h6 (fun z w => ⟨fun q => absurd q (by decide), fun _ => ?_⟩) (fun w3 => ⟨fun _ => ?_, fun q => absurd rfl q⟩)
  · have e : lnF b L i st = oneF b L i st := by rw [base (k2 z), if_neg (fun y => w0 ⟨z, y⟩), if_neg (fun y => w1 ⟨z, y⟩), if_neg (fun y => w2 ⟨z, y⟩), if_pos w]
    obtain ⟨u6, u4⟩ := tk (by have := k2 z; omega)
    exact c_Ta_takeOne (d := d + 1) hB hi t7 u6 u4 hW hd (fun c p h m1 a1 a2 a3 => ⟨Or.inl rfl, hQe c p (by rw [e, h]) m1 a1 a2 a3⟩) (fun j st' h m1 a1 a2 a3 a4 a5 => ⟨Or.inr rfl, hQk j st' (by rw [e, h]) m1 a1 a2 a3 a4 a5⟩)
  refine c_Ta_isWord (d := d + 2) (k := 4) (by omega) hB hse t7 h6 (fun z w => ⟨fun q => absurd q (by decide), fun _ => ?_⟩) (fun w4 => ⟨fun _ => ?_, fun q => absurd rfl q⟩)
  · have e : lnF b L i st = wallF b L i st := by rw [base (k2 z), if_neg (fun y => w0 ⟨z, y⟩), if_neg (fun y => w1 ⟨z, y⟩), if_neg (fun y => w2 ⟨z, y⟩), if_neg (fun y => w3 ⟨z, y⟩), if_pos w]
    obtain ⟨u6, u4⟩ := tk (by have := k2 z; omega)
    exact c_Ta_takeWalled (d := d + 1) hB hi u6 u4 hW hd (fun c p h m1 a1 a2 a3 => ⟨Or.inl rfl, hQe c p (by rw [e, h]) m1 a1 a2 a3⟩) (fun j st' h m1 a1 a2 a3 a4 a5 => ⟨Or.inr rfl, hQk j st' (by rw [e, h]) m1 a1 a2 a3 a4 a5⟩)
  rw [t7]
  refine c_Ta_refuse (d := d + 5) (fun m2 q1 q2 q3 q4 => ⟨Or.inl rfl, ?_⟩)
  have hf : dFr mem m2 := cFr.df ⟨q3, fun x hx => q4 x (by omega) (by omega)⟩
  by_cases c0 : tkK b L i = 0
  · obtain ⟨u1, u2⟩ := t0 c0
    refine hQe 1 (tkS b L i) (by unfold lnF; rw [if_pos c0]) m2 ?_ ?_ hf
    · rw [(q1 (by rw [u1]; decide)).1, u1]
    · rw [(q1 (by rw [u1]; decide)).2, u2]
  · have u4 := (tk c0).2
    refine hQe 2 (tkS b L i) ?_ m2 (q2 u4).1 (q2 u4).2 hf
    by_cases c2 : tkK b L i = 2
    · have z : mem 53 8 = 2 := by rw [t8, c2]; rfl
      rw [base c2, if_neg (fun y => w0 ⟨z, y⟩), if_neg (fun y => w1 ⟨z, y⟩), if_neg (fun y => w2 ⟨z, y⟩), if_neg (fun y => w3 ⟨z, y⟩), if_neg (fun y => w4 ⟨z, y⟩)]
    · unfold lnF
      rw [if_neg c0, if_pos c2]
end
