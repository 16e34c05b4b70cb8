section
/-! palace: the class's lines, door. -/
variable {d w : Nat} {mem m m' m2 : zMem} {Q : Int → zMem → Prop} {b : Nat → Int} {L i j : Nat} {g g' : zPg} {rm v : Int}
theorem colF_rg (b : Nat → Int) (s e : Nat) : 0 ≤ colF b s e ∧ colF b s e < 4 := by
  unfold colF
  split
  · omega
  · split
    · omega
    · split <;> omega
theorem c_Ta_colourTold {s e : Nat} (hB : cB mem b L) (hse : s ≤ e ∧ e ≤ L) (h7 : mem 53 7 = (s : Int)) (h8 : mem 53 8 = 2) (h6 : mem 53 6 = (e : Int)) (hQ : Q (colF b s e) mem) : zC (d + 5) K_Ta_colourTold [(2, Int.ofNat 53)] mem Q := by
  unfold colF at hQ
  refine v_Ta_colourTold (c_Ta_isWord (d := d) (k := 5) (by omega) hB hse h7 (fun _ => h6) (fun _ c => ⟨fun q => absurd q (by decide), fun _ => ?_⟩) (fun c => ⟨fun _ => ?_, fun q => absurd rfl q⟩))
  · rw [if_pos c] at hQ; exact hQ
  · rw [if_neg (fun z => c ⟨h8, z⟩)] at hQ
    refine c_Ta_isWord (d := d) (k := 6) (by omega) hB hse h7 (fun _ => h6) (fun _ c => ⟨fun q => absurd q (by decide), fun _ => ?_⟩) (fun c => ⟨fun _ => ?_, fun q => absurd rfl q⟩)
    · rw [if_pos c] at hQ; exact hQ
    · rw [if_neg (fun z => c ⟨h8, z⟩)] at hQ
      refine c_Ta_isWord (d := d) (k := 7) (by omega) hB hse h7 (fun _ => h6) (fun _ c => ⟨fun q => absurd q (by decide), fun _ => ?_⟩) (fun c => ⟨fun _ => ?_, fun q => absurd rfl q⟩)
      · rw [if_pos c] at hQ; exact hQ
      · rw [if_neg (fun z => c ⟨h8, z⟩)] at hQ; exact hQ
theorem pdW.door {st : zPD} {x y c : Int} (hW : pdW st) (hN : gN st.1 < 14) (hx : 0 ≤ x ∧ x < 10) (hy : 0 ≤ y ∧ y < 10) (hxy : x ≠ y) (hc : 0 ≤ c ∧ c < 4) : pdW (gAdd st.1 x y c, st.2) := by
  obtain ⟨x1, x2, x3, x4, x5, x6, x7, x8, x9⟩ := hW
  have hN0 := x1.1
  obtain ⟨a1, a2, a3, a4⟩ := gAdd_at (g := st.1) (a := x) (b := y) (c := c) ⟨hN0.1, hN⟩
  refine ⟨gAdd_Do x1 hN hx hy hxy hc, x2, ?_, ?_, fun k hk => ?_, fun p hp => ?_, x7, x8, x9⟩
  · show 0 ≤ gAdd st.1 x y c 72 ∧ gAdd st.1 x y c 72 ≤ 5
    rw [a2 72 (by omega)]; exact x3
  · show gAdd st.1 x y c 86 = 0
    rw [a2 86 (by omega)]; exact x4
  · have hk : (k : Int) < gN (gAdd st.1 x y c) := hk
    show gX (gAdd st.1 x y c) k = 0
    by_cases e : (k : Int) = gN st.1
    · rw [show k = (gN st.1).toNat by omega]; exact a4.2.2.2
    · rw [(a3 k (by omega)).2.2.2]; exact x5 k (by omega)
  · have hp : (p : Int) < gAdd st.1 x y c 72 := hp
    rw [a2 72 (by omega)] at hp
    show (0 ≤ gAdd st.1 x y c (57 + 3 * p) ∧ gAdd st.1 x y c (57 + 3 * p) < 10) ∧ gAdd st.1 x y c (58 + 3 * p) = -4 ∧ gAdd st.1 x y c (59 + 3 * p) = -4
    rw [a2 _ (by omega), a2 _ (by omega), a2 _ (by omega)]
    exact x6 p hp
theorem cD.door {st : zPD} {x y c : Int} (hd : cD mem st) (hW : pdW st) (hN : gN st.1 < 14) (hH : Hs m' 56 (gAdd st.1 x y c) st.2.1) (hk : ∀ k, k < 56 ∨ 61 < k → m' k = mem k) : cD m' (gAdd st.1 x y c, st.2) := by
  obtain ⟨⟨h1, h2, h3, h4, h5⟩, k2, k3, k4⟩ := hd
  obtain ⟨a1, a2, a3, a4⟩ := gAdd_at (g := st.1) (a := x) (b := y) (c := c) ⟨hW.1.1.1, hN⟩
  have hW0 := hW.2.2.2.1
  refine ⟨⟨hH, ?_, fun p hp => ?_, ?_, fun p hp => ?_⟩, ?_, ?_, ?_⟩
  · show m' 55 2 = gAdd st.1 x y c 72
    rw [hk 55 (by omega), a2 72 (by omega)]; exact h2
  · have hp : (p : Int) < gAdd st.1 x y c 72 := hp
    rw [a2 72 (by omega)] at hp
    have := h3 p hp
    show Ws m' (55 + 8 + p) (gAdd st.1 x y c (57 + 3 * p)) (gAdd st.1 x y c (58 + 3 * p)) (gAdd st.1 x y c (59 + 3 * p))
    rw [a2 _ (by omega), a2 _ (by omega), a2 _ (by omega)]
    unfold Ws at this ⊢
    rw [hk _ (by omega)]
    exact this
  · show m' 55 4 = gAdd st.1 x y c 86
    rw [hk 55 (by omega), a2 86 (by omega)]; exact h4
  · have hp : (p : Int) < gAdd st.1 x y c 86 := hp
    rw [a2 86 (by omega), show st.1 86 = gW st.1 from rfl] at hp
    omega
  · rw [hk 53 (by omega)]; exact k2
  · rw [hk 53 (by omega)]; exact k3
  · rw [hk 53 (by omega)]; exact k4
theorem c_Ta_takeDoor {st : zPD} (hB : cB mem b L) (hi : i ≤ L) (h7 : mem 53 7 = (tkS b L i : Int)) (h6 : mem 53 6 = (tkE b L i : Int)) (h4 : mem 53 4 = 0) (hW : pdW st) (hd : cD mem st) (hQe : ∀ c p, doorF b L i st = .inl (c, p) → ∀ m' : zMem, m' 53 4 = c → m' 53 5 = (p : Int) → dFr mem m' → Q 0 m') (hQk : ∀ j st', doorF b L i st = .inr (j, st') → ∀ m' : zMem, cD m' st' → pdW st' → m' 53 6 = (j : Int) → m' 53 4 = 0 → dFr mem m' → Q 1 m') : zC (d + 6) K_Ta_takeDoor [(2, Int.ofNat 53)] mem Q := by
  obtain ⟨d1, d2, d3, d4⟩ := id hd
  have hle := tk_le (b := b) hi
  have h562 : mem 56 2 = gN st.1 := d1.1.2.2.1
  refine v_Ta_takeDoor ?_
  rw [h562, h7]
  refine ⟨fun c1 => ?_, fun c1 => c_Ta_refuse (d := d + 4) (fun m2 q1 q2 q3 q4 => ⟨Or.inl rfl, hQe 5 (tkS b L i) (by unfold doorF; rw [if_pos c1]) m2 (q2 h4).1 (q2 h4).2 (cFr.df ⟨q3, fun x hx => q4 x (by omega) (by omega)⟩)⟩)⟩
  have hR : doorF b L i st = bnd (numF b L (tkE b L i) 0 9) (fun v => bnd (numF b L v.2 0 9) (fun u => if v.1 = u.1 then .inl (4, tkS b L v.2) else bnd (endF b L u.2) (fun c => .inr (c.2, (gAdd st.1 v.1 u.1 c.1, st.2))))) := by unfold doorF; rw [if_neg (by omega)]
  refine c_Ta_takeNumber (d := d + 1) hB (i := tkE b L i) hle.2.2.1 h6 h4 (fun c p hn m2 a1 a2 a3 => ⟨fun q => absurd rfl q, fun _ => hQe c p (by rw [hR, hn]; rfl) m2 a1 a2 a3.df⟩) (fun v j hn m2 a1 a2 a3 a4 a5 => ⟨fun _ x2 ex2 => ?_, fun q => absurd q (by decide)⟩)
  have hv := numF_r hn
  have hj : j ≤ L := by rw [hv.2.2.2]; exact (tk_le hle.2.2.1).2.2.1
  have hlj := tk_le (b := b) hj
  have hR : doorF b L i st = bnd (numF b L j 0 9) (fun u => if v = u.1 then .inl (4, tkS b L j) else bnd (endF b L u.2) (fun c => .inr (c.2, (gAdd st.1 v u.1 c.1, st.2)))) := by rw [hR, hn]; rfl
  rw [a1] at ex2
  rw [ex2]
  refine c_Ta_takeNumber (d := d + 1) (hB.fr a5) (i := j) hj a2 a3 (fun c p hn m3 b1 b2 b3 => ⟨fun q => absurd rfl q, fun _ => hQe c p (by rw [hR, hn]; rfl) m3 b1 b2 (a5.trans b3).df⟩) (fun u k hn2 m3 b1 b2 b3 b4 b5 => ⟨fun _ x4 ex4 => ?_, fun q => absurd q (by decide)⟩)
  have hu := numF_r hn2
  have hk : k ≤ L := by rw [hu.2.2.2]; exact hlj.2.2.1
  have hlk := tk_le (b := b) hk
  have hR : doorF b L i st = if v = u then .inl (4, tkS b L j) else bnd (endF b L k) (fun c => .inr (c.2, (gAdd st.1 v u c.1, st.2))) := by rw [hR, hn2]; rfl
  rw [b1] at ex4
  rw [ex4, b4]
  have f3 := a5.trans b5
  refine ⟨fun c2 => ?_, fun c2 => c_Ta_refuse (d := d + 4) (fun m4 q1 q2 q3 q4 => ⟨Or.inl rfl, hQe 4 (tkS b L j) (by rw [hR, if_pos c2]) m4 (q2 b3).1 (q2 b3).2 (f3.df.trans (cFr.df ⟨q3, fun x hx => q4 x (by omega) (by omega)⟩))⟩)⟩
  rw [if_neg c2] at hR
  -- the end of the line
  have fin : ∀ (p : Nat) (c : Int) (m4 : zMem) (hc : 0 ≤ c ∧ c < 4), (∀ cc pp, sgnF b L p = .inl (cc, pp) → doorF b L i st = .inl (cc, pp)) → (∀ q, sgnF b L p = .inr q → doorF b L i st = .inr (q, (gAdd st.1 v u c, st.2))) → cTk m4 b L p → cFr mem m4 → zC (d + 5) K_Ta_isSign [(2, Int.ofNat 53)] m4 (fun r6 m4 => ((r6 = 0 → Q 0 m4) ∧ (r6 ≠ 0 → zC (d + 5) K_Ho_add [(2, Int.ofNat 56), (0, v), (0, u), (0, c)] m4 (fun r7 m5 => ((r7 = 0 → Q 0 m5) ∧ (r7 ≠ 0 → Q 1 m5)))))) := by
    intro p c m4 hc he hk' ht hf4
    refine c_Ta_isSign (d := d + 3) ht (fun cc pp h m5 g1 g2 g3 => ⟨fun _ => hQe cc pp (he cc pp h) m5 g1 g2 (hf4.trans g3).df, fun q => absurd rfl q⟩) (fun q h g1 g2 => ⟨fun z => absurd z (by decide), fun _ => ?_⟩)
    have hd4 := hd.c hW hf4
    refine c_Ho_add (d := d + 4) (Or.inr (Or.inr (Or.inr rfl))) hd4.1.1 hW.1 (by omega) (by omega) c2 hc (fun z => by omega) (fun _ m5 hH hk5 => ⟨fun z => absurd z (by decide), fun _ => hQk q _ (hk' q h) m5 (hd4.door hW c1 hH (fun k hk => hk5 k (by omega))) (hW.door c1 (by omega) (by omega) c2 hc) ?_ ?_ (hf4.df.trans ⟨fun k hk => hk5 k (by omega), by rw [hk5 53 (by omega)], by rw [hk5 53 (by omega)]⟩)⟩)
    · rw [hk5 53 (by omega), g1]
    · rw [hk5 53 (by omega), g2]
  refine c_Ta_nextToken (d := d + 2) (hB.fr f3) hk b2 b3 (fun m4 ht hf4 => ?_)
  obtain ⟨t7, t8, tk, tv, t0⟩ := id ht
  have f4 := f3.trans hf4
  rw [t8]
  refine ⟨fun c3 => ?_, fun c3 => ?_⟩
  · have c3' : tkK b L k ≠ 2 := fun z => c3 (by rw [z]; rfl)
    have hE : endF b L k = bnd (sgnF b L k) (fun j => .inr (0, j)) := by unfold endF; rw [if_neg c3']
    exact fin k 0 m4 (by omega) (fun cc pp h => by rw [hR, hE, h]; rfl) (fun q h => by rw [hR, hE, h]; rfl) ht f4
  · have c3' : tkK b L k = 2 := by omega
    obtain ⟨u6, u4⟩ := tk (by omega)
    have hE : endF b L k = if colF b (tkS b L k) (tkE b L k) = 0 then .inl (2, tkS b L k) else bnd (sgnF b L (tkE b L k)) (fun j => .inr (colF b (tkS b L k) (tkE b L k), j)) := by unfold endF; rw [if_pos c3']
    refine c_Ta_colourTold (d := d) (hB.fr f4) ⟨hlk.2.1, hlk.2.2.1⟩ t7 (by rw [t8, c3']; rfl) u6 ?_
    refine ⟨fun c4 => ?_, fun c4 => ?_⟩
    · rw [if_neg c4] at hE
      refine c_Ta_nextToken (d := d + 2) (hB.fr f4) hlk.2.2.1 u6 u4 (fun m7 ht7 hf7 => ?_)
      exact fin (tkE b L k) _ m7 (colF_rg _ _ _) (fun cc pp h => by rw [hR, hE, h]; rfl) (fun q h => by rw [hR, hE, h]; rfl) ht7 (f4.trans hf7)
    · rw [if_pos c4] at hE
      rw [t7]
      refine c_Ta_refuse (d := d + 4) (fun m5 q1 q2 q3 q4 => ⟨Or.inl rfl, hQe 2 (tkS b L k) (by rw [hR, hE]; rfl) m5 (q2 u4).1 (q2 u4).2 (f4.df.trans (cFr.df ⟨q3, fun x hx => q4 x (by omega) (by omega)⟩))⟩)
end
