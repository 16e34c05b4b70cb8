section
/-! palace: numbers and signs. -/
variable {d w : Nat} {mem m m' m2 : zMem} {Q : Int → zMem → Prop} {b : Nat → Int} {L i j : Nat} {lo hi : Int}
/-- a number is told: its value and what is behind it; or a fault -/
def numF (b : Nat → Int) (L i : Nat) (lo hi : Int) : Sum (Int × Nat) (Int × Nat) :=
  if tkK b L i = 0 then .inl (1, tkS b L i) else if tkK b L i ≠ 3 then .inl (2, tkS b L i) else if tkV b L i < lo ∨ hi < tkV b L i then .inl (3, tkS b L i) else .inr (tkV b L i, tkE b L i)
def sgnF (b : Nat → Int) (L i : Nat) : Sum (Int × Nat) Nat :=
  if tkK b L i = 0 then .inl (1, tkS b L i) else if tkK b L i ≠ 4 then .inl (2, tkS b L i) else .inr (tkE b L i)
theorem numF_r {v : Int} (h : numF b L i lo hi = .inr (v, j)) : tkK b L i = 3 ∧ (lo ≤ v ∧ v ≤ hi) ∧ v = tkV b L i ∧ j = tkE b L i := by
  unfold numF at h
  split at h
  · exact absurd h (by simp)
  · split at h
    · exact absurd h (by simp)
    · rename_i h2
      split at h
      · exact absurd h (by simp)
      · rename_i h3
        injection h with h
        injection h with h4 h5
        exact ⟨by omega, by omega, h4.symm, h5.symm⟩
theorem numF_l {c : Int} {p : Nat} (h : numF b L i lo hi = .inl (c, p)) : (c = 1 ∨ c = 2 ∨ c = 3) ∧ p = tkS b L i := by
  unfold numF at h
  split at h
  · injection h with h; injection h with h4 h5; exact ⟨by omega, h5.symm⟩
  · split at h
    · injection h with h; injection h with h4 h5; exact ⟨by omega, h5.symm⟩
    · split at h
      · injection h with h; injection h with h4 h5; exact ⟨by omega, h5.symm⟩
      · exact absurd h (by simp)
theorem sgnF_r (h : sgnF b L i = .inr j) : tkK b L i = 4 ∧ j = tkE b L i := by
  unfold sgnF at h
  split at h
  · exact absurd h (by simp)
  · split at h
    · exact absurd h (by simp)
    · injection h with h
      exact ⟨by omega, h.symm⟩
theorem c_Ta_takeNumber {hi' : Int} (hB : cB mem b L) (hi : i ≤ L) (h6 : mem 53 6 = i) (h4 : mem 53 4 = 0) (hQe : ∀ c p, numF b L i lo hi' = .inl (c, p) → ∀ m' : zMem, m' 53 4 = c → m' 53 5 = (p : Int) → cFr mem m' → Q 0 m') (hQk : ∀ v j, numF b L i lo hi' = .inr (v, j) → ∀ m' : zMem, m' 53 9 = v → m' 53 6 = (j : Int) → m' 53 4 = 0 → m' 53 7 = (tkS b L i : Int) → cFr mem m' → Q 1 m') : zC (d + 4) K_Ta_takeNumber [(2, Int.ofNat 53), (0, lo), (0, hi')] mem Q := by
  refine v_Ta_takeNumber (c_Ta_nextToken (d := d) hB hi h6 h4 (fun m1 ht hf => ?_))
  obtain ⟨t7, t8, tk, tv, t0⟩ := ht
  rw [t8, t7]
  have ref : ∀ (c : Int) (p : Nat) (P : Int → zMem → Prop), numF b L i lo hi' = .inl (c, p) → m1 53 4 = 0 → p = tkS b L i → (∀ m2, Q 0 m2 → P 0 m2) → zC (d + 3) K_Ta_refuse [(2, Int.ofNat 53), (0, c), (0, (tkS b L i : Int))] m1 P := by
    intro c p P hn h0 hp hP
    refine c_Ta_refuse (d := d + 2) (fun m2 q1 q2 q3 q4 => hP m2 (hQe c p hn m2 (q2 h0).1 (by rw [(q2 h0).2, hp]) (hf.trans ⟨q3, fun x hx => q4 x (by omega) (by omega)⟩)))
  by_cases k0 : tkK b L i = 0
  · obtain ⟨u1, u2⟩ := t0 k0
    have hn : numF b L i lo hi' = .inl (1, tkS b L i) := by unfold numF; rw [if_pos k0]
    refine ⟨fun z => by omega, fun _ => c_Ta_refuse (d := d + 2) (fun m2 q1 q2 q3 q4 => ⟨Or.inl rfl, hQe _ _ hn m2 ?_ ?_ (hf.trans ⟨q3, fun x hx => q4 x (by omega) (by omega)⟩)⟩)⟩
    · rw [(q1 (by rw [u1]; decide)).1, u1]
    · rw [(q1 (by rw [u1]; decide)).2, u2]
  · obtain ⟨u6, u4⟩ := tk k0
    by_cases k3 : tkK b L i = 3
    · rw [tv k3]
      refine ⟨fun _ => ⟨fun c1 => ref 3 _ _ ?_ u4 rfl (fun m2 h => ⟨fun _ => h, fun q => absurd rfl q⟩), fun c1 => ⟨fun c2 => ?_, fun c2 => ref 3 _ _ ?_ u4 rfl (fun m2 h => ⟨fun _ => h, fun q => absurd rfl q⟩)⟩⟩, fun z => absurd (by omega) z⟩
      · unfold numF; rw [if_neg k0, if_neg (fun z => z k3), if_pos (Or.inl c1)]
      · exact hQk _ _ (by unfold numF; rw [if_neg k0, if_neg (fun z => z k3), if_neg (by omega)]) m1 (tv k3) u6 u4 t7 hf
      · unfold numF; rw [if_neg k0, if_neg (fun z => z k3), if_pos (Or.inr c2)]
    · refine ⟨fun z => by omega, fun _ => ref 2 _ _ ?_ u4 rfl (fun m2 h => ⟨Or.inl rfl, h⟩)⟩
      unfold numF; rw [if_neg k0, if_pos k3]
/-- a sign stands before the class -/
theorem c_Ta_isSign (ht : cTk mem b L i) (hQe : ∀ c p, sgnF b L i = .inl (c, p) → ∀ m' : zMem, m' 53 4 = c → m' 53 5 = (p : Int) → cFr mem m' → Q 0 m') (hQk : ∀ j, sgnF b L i = .inr j → mem 53 6 = (j : Int) → mem 53 4 = 0 → Q 1 mem) : zC (d + 2) K_Ta_isSign [(2, Int.ofNat 53)] mem Q := by
  obtain ⟨t7, t8, tk, tv, t0⟩ := ht
  refine v_Ta_isSign ?_
  rw [t8, t7]
  by_cases k0 : tkK b L i = 0
  · obtain ⟨u1, u2⟩ := t0 k0
    have hn : sgnF b L i = .inl (1, tkS b L i) := by unfold sgnF; rw [if_pos k0]
    refine ⟨fun z => by omega, fun _ => c_Ta_refuse (d := d) (fun m2 q1 q2 q3 q4 => ⟨fun _ => hQe _ _ hn m2 ?_ ?_ ⟨q3, fun x hx => q4 x (by omega) (by omega)⟩, fun q => absurd rfl q⟩)⟩
    · rw [(q1 (by rw [u1]; decide)).1, u1]
    · rw [(q1 (by rw [u1]; decide)).2, u2]
  · obtain ⟨u6, u4⟩ := tk k0
    by_cases k4 : tkK b L i = 4
    · exact ⟨fun _ => hQk _ (by unfold sgnF; rw [if_neg k0, if_neg (fun z => z k4)]) u6 u4, fun z => absurd (by omega) z⟩
    · refine ⟨fun z => by omega, fun _ => c_Ta_refuse (d := d) (fun m2 q1 q2 q3 q4 => ⟨fun _ => hQe 2 (tkS b L i) ?_ m2 (q2 u4).1 (q2 u4).2 ⟨q3, fun x hx => q4 x (by omega) (by omega)⟩, fun q => absurd rfl q⟩)⟩
      unfold sgnF; rw [if_neg k0, if_pos k4]
theorem c_Ta_takeSign (hB : cB mem b L) (hi : i ≤ L) (h6 : mem 53 6 = i) (h4 : mem 53 4 = 0) (hQe : ∀ c p, sgnF b L i = .inl (c, p) → ∀ m' : zMem, m' 53 4 = c → m' 53 5 = (p : Int) → cFr mem m' → Q 0 m') (hQk : ∀ j, sgnF b L i = .inr j → ∀ m' : zMem, m' 53 6 = (j : Int) → m' 53 4 = 0 → cFr mem m' → Q 1 m') : zC (d + 4) K_Ta_takeSign [(2, Int.ofNat 53)] mem Q :=
  v_Ta_takeSign (c_Ta_nextToken (d := d) hB hi h6 h4 (fun m1 ht hf => c_Ta_isSign (d := d + 1) ht (fun c p h m2 a1 a2 a3 => ⟨Or.inl rfl, hQe c p h m2 a1 a2 (hf.trans a3)⟩) (fun j h a1 a2 => ⟨Or.inr rfl, hQk j h m1 a1 a2 hf⟩)))
/-! The reference. -/
def rBr (m : zMem) (c : Int) (p : Nat) : Prop := m 122 12 = c ∧ m 122 13 = (p : Int)
theorem c_Mo_stepB (h12 : 0 < mem 122 12) (hQ : Q 0 mem) : zC (d + 1) K_Mo_step [(2, Int.ofNat 122)] mem Q := v_Mo_step ⟨fun z => by omega, fun _ => hQ⟩
theorem c_Mo_looksB {lo hi : Int} (h12 : mem 122 12 ≠ 0) (hQ : Q 0 mem) : zC (d + 1) K_Mo_looks [(2, Int.ofNat 122), (0, lo), (0, hi)] mem Q :=
  v_Mo_looks ⟨fun _ => ⟨fun _ => v_Mo_looks_47 hQ, fun z => absurd z h12⟩, fun z => absurd z h12⟩
theorem c_Mo_looks {lo hi : Int} (ht : rTk mem b L i) (hQe : ∀ c p, numF b L i lo hi = .inl (c, p) → ∀ m' : zMem, rBr m' c p → rFr mem m' → Q 0 m') (hQk : ∀ v j, numF b L i lo hi = .inr (v, j) → mem 122 17 = v → mem 122 14 = (j : Int) → mem 122 12 = 0 → Q 0 mem) : zC (d + 2) K_Mo_looks [(2, Int.ofNat 122), (0, lo), (0, hi)] mem Q := by
  obtain ⟨t15, tk, tv, t0⟩ := ht
  by_cases k0 : tkK b L i = 0
  · obtain ⟨u1, u2⟩ := t0 k0
    exact c_Mo_looksB (by rw [u1]; decide) (hQe 1 (tkS b L i) (by unfold numF; rw [if_pos k0]) mem ⟨u1, u2⟩ rFr.refl)
  · obtain ⟨u12, u16, u14⟩ := tk k0
    have fl : ∀ (c : Int) (P : Int → zMem → Prop), numF b L i lo hi = .inl (c, tkS b L i) → (∀ m2, rBr m2 c (tkS b L i) → rFr mem m2 → P 0 m2) → zC (d + 1) K_Mo_fails [(2, Int.ofNat 122), (0, c)] mem P := by
      intro c P hn hP
      exact c_Mo_fails (d := d) (fun m' q1 q2 q3 q4 => hP m' ⟨(q2 u12).1, by rw [(q2 u12).2, t15]⟩ ⟨q3, fun x hx => q4 x (by omega) (by omega)⟩)
    refine v_Mo_looks ⟨fun z => absurd u12 z, fun _ => ?_⟩
    rw [u16]
    by_cases k3 : tkK b L i = 3
    · rw [tv k3]
      refine ⟨fun _ => ⟨fun z => absurd u12 z, fun _ => c_Mo_in (d := d) (fun c1 => ⟨fun _ => v_Mo_looks_47 (hQk _ _ ?_ (tv k3) u14 u12), fun q => absurd q (by decide)⟩) (fun c1 => ⟨fun q => absurd rfl q, fun _ => fl 3 _ ?_ (fun m2 h1 h2 => v_Mo_looks_47 (hQe 3 _ ?_ m2 h1 h2))⟩)⟩, fun z => absurd (by omega) z⟩
      · unfold numF; rw [if_neg k0, if_neg (fun z => z k3), if_neg (by omega)]
      · unfold numF; rw [if_neg k0, if_neg (fun z => z k3), if_pos (by omega)]
      · unfold numF; rw [if_neg k0, if_neg (fun z => z k3), if_pos (by omega)]
    · have hn : numF b L i lo hi = .inl (2, tkS b L i) := by unfold numF; rw [if_neg k0, if_pos k3]
      refine ⟨fun z => by omega, fun _ => fl 2 _ hn (fun m2 h1 h2 => ⟨fun _ => v_Mo_looks_47 (hQe 2 _ hn m2 h1 h2), fun z => ?_⟩)⟩
      rw [h1.1] at z
      exact absurd z (by decide)
theorem c_Mo_numberB {lo hi : Int} (h12 : 0 < mem 122 12) (hQ : Q lo mem) : zC (d + 2) K_Mo_number [(2, Int.ofNat 122), (0, lo), (0, hi)] mem Q :=
  v_Mo_number (c_Mo_looksB (d := d) (by omega) ⟨fun _ => c_Mo_stepB (d := d) h12 hQ, fun z => by omega⟩)
theorem c_Mo_number {lo hi : Int} (hB : rB mem b L) (hiL : i ≤ L) (ht : rTk mem b L i) (hQe : ∀ c p, numF b L i lo hi = .inl (c, p) → ∀ m' : zMem, rBr m' c p → rFr mem m' → Q lo m') (hQk : ∀ v j, numF b L i lo hi = .inr (v, j) → ∀ m' : zMem, rTk m' b L j → rFr mem m' → Q v m') : zC (d + 3) K_Mo_number [(2, Int.ofNat 122), (0, lo), (0, hi)] mem Q := by
  refine v_Mo_number (c_Mo_looks (d := d) ht (fun c p hn m' hb hf => ?_) (fun v j hn h17 h14 h12 => ?_))
  · have hc := (numF_l hn).1
    refine ⟨fun _ => c_Mo_stepB (d := d + 1) (by rw [hb.1]; omega) (hQe c p hn m' hb hf), fun z => by rw [hb.1] at z; omega⟩
  · refine ⟨fun z => absurd h12 z, fun _ x3 e3 => ?_⟩
    rw [e3, h17]
    have hj : j ≤ L := by rw [(numF_r hn).2.2.2]; exact (tk_le hiL).2.2.1
    exact c_Mo_step (d := d) hB hj h14 h12 (fun m' h1 h2 => hQk v j hn m' h1 h2)
end
