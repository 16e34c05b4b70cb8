section
/-! palace: the class's lines. -/
variable {d w : Nat} {mem m m' m2 : zMem} {Q : Int → zMem → Prop} {b : Nat → Int} {L i j : Nat} {g g' : zPg} {rm v : Int}
/-- the house is the page's when only its law has changed -/
theorem Hs.law {h : Nat} (hH : Hs mem h g rm) (hN : gN g ≤ 14) (h1 : m' h 1 = v) (hj : ∀ x, x ≠ 1 → m' h x = mem h x) (hk : ∀ k, h < k → k ≤ h + 5 → m' k = mem k) : Hs m' h (gLw g v) rm := by
  obtain ⟨y1, y2, y3, y4, y5, y6, y7⟩ := hH
  have eN : gN (gLw g v) = gN g := rfl
  have eL : gL (gLw g v) = v := rfl
  have eD : ∀ k : Nat, k < 14 → gA (gLw g v) k = gA g k ∧ gB (gLw g v) k = gB g k ∧ gC (gLw g v) k = gC g k ∧ gX (gLw g v) k = gX g k := fun k hk' => by
    unfold gA gB gC gX gLw
    rw [if_neg (by omega), if_neg (by omega), if_neg (by omega), if_neg (by omega)]
    exact ⟨rfl, rfl, rfl, rfl⟩
  refine ⟨by rw [hj 0 (by omega), y1], by rw [h1, eL], by rw [hj 2 (by omega), y3, eN], fun k hk' => ?_, fun k hk' => ?_, fun r hr k hk' => ?_, fun c hc k hk' => ?_⟩
  · rw [hj 3 (by omega), y4 k hk', eN]
    constructor
    · rintro ⟨a1, a2⟩; exact ⟨a1, by rw [(eD k (by omega)).2.2.2]; exact a2⟩
    · rintro ⟨a1, a2⟩; exact ⟨a1, by rw [(eD k (by omega)).2.2.2] at a2; exact a2⟩
  · rw [eN] at hk'
    obtain ⟨a1, a2, a3, -⟩ := eD k (by omega)
    rw [hk (h + 1) (by omega) (by omega), hk (h + 2) (by omega) (by omega), hk (h + 3) (by omega) (by omega), a1, a2, a3]
    exact y5 k hk'
  · rw [hk (h + 4) (by omega) (by omega), y6 r hr k hk']
    unfold gO
    rw [eN]
    constructor
    · rintro ⟨a1, a2⟩; obtain ⟨c1, c2, -, c4⟩ := eD k (by omega); rw [c1, c2, c4]; exact ⟨a1, a2⟩
    · rintro ⟨a1, a2⟩; obtain ⟨c1, c2, -, c4⟩ := eD k (by omega); rw [c1, c2, c4] at a2; exact ⟨a1, a2⟩
  · rw [hk (h + 5) (by omega) (by omega), y7 c hc k hk', eN]
    constructor
    · rintro ⟨a1, a2⟩; exact ⟨a1, by rw [(eD k (by omega)).2.2.1]; exact a2⟩
    · rintro ⟨a1, a2⟩; exact ⟨a1, by rw [(eD k (by omega)).2.2.1] at a2; exact a2⟩
theorem gLw_at (g : zPg) (v : Int) {i : Nat} (h : i ≠ 73) : gLw g v i = g i := if_neg h
theorem pdW.law {st : zPD} (hW : pdW st) (hv : 0 ≤ v ∧ v ≤ 3) : pdW (gLw st.1 v, st.2.1, st.2.2.1, 1, st.2.2.2.2) := by
  obtain ⟨x1, x2, x3, x4, x5, x6, x7, x8, x9⟩ := hW
  have hN := x1.1
  have eD : ∀ k : Nat, k < 14 → gA (gLw st.1 v) k = gA st.1 k ∧ gB (gLw st.1 v) k = gB st.1 k ∧ gC (gLw st.1 v) k = gC st.1 k ∧ gX (gLw st.1 v) k = gX st.1 k := fun k hk => ⟨gLw_at _ _ (by omega), gLw_at _ _ (by omega), gLw_at _ _ (by omega), gLw_at _ _ (by omega)⟩
  refine ⟨⟨x1.1, hv, fun k hk => ?_⟩, x2, x3, x4, fun k hk => ?_, fun p hp => ?_, x7, Or.inr rfl, x9⟩
  · have hk : (k : Int) < gN st.1 := hk
    obtain ⟨a1, a2, a3, a4⟩ := eD k (by omega)
    show (0 ≤ gA (gLw st.1 v) k ∧ gA (gLw st.1 v) k < 10) ∧ (0 ≤ gB (gLw st.1 v) k ∧ gB (gLw st.1 v) k < 10) ∧ gA (gLw st.1 v) k ≠ gB (gLw st.1 v) k ∧ (0 ≤ gC (gLw st.1 v) k ∧ gC (gLw st.1 v) k < 4) ∧ (gX (gLw st.1 v) k = 0 ∨ gX (gLw st.1 v) k = 1)
    rw [a1, a2, a3, a4]
    exact x1.2.2 k hk
  · have hk : (k : Int) < gN st.1 := hk
    show gX (gLw st.1 v) k = 0
    rw [(eD k (by omega)).2.2.2]
    exact x5 k hk
  · have hp : (p : Int) < gP st.1 := hp
    have e1 : gR (gLw st.1 v) p = gR st.1 p := gLw_at _ _ (by omega)
    have e2 : gT (gLw st.1 v) p = gT st.1 p := gLw_at _ _ (by omega)
    have e3 : gU (gLw st.1 v) p = gU st.1 p := gLw_at _ _ (by omega)
    show (0 ≤ gR (gLw st.1 v) p ∧ gR (gLw st.1 v) p < 10) ∧ gT (gLw st.1 v) p = -4 ∧ gU (gLw st.1 v) p = -4
    rw [e1, e2, e3]
    exact x6 p hp
theorem c_Ta_takeLaw {st : zPD} (hB : cB mem b L) (hi : i ≤ L) (h7 : mem 53 7 = (tkS b L i : Int)) (h6 : mem 53 6 = (tkE b L i : Int)) (h4 : mem 53 4 = 0) (hW : pdW st) (hd : cD mem st) (hQe : ∀ c p, lawF b L i st = .inl (c, p) → ∀ m' : zMem, m' 53 4 = c → m' 53 5 = (p : Int) → dFr mem m' → Q 0 m') (hQk : ∀ j st', lawF b L i st = .inr (j, st') → ∀ m' : zMem, cD m' st' → pdW st' → m' 53 6 = (j : Int) → m' 53 4 = 0 → dFr mem m' → Q 1 m') : zC (d + 5) K_Ta_takeLaw [(2, Int.ofNat 53)] mem Q := by
  obtain ⟨d1, d2, d3, d4⟩ := id hd
  have hle := tk_le (b := b) hi
  refine v_Ta_takeLaw ?_
  rw [d3, h7]
  refine ⟨fun c1 m1 e1 => ?_, fun c1 => c_Ta_refuse (d := d + 3) (fun m2 q1 q2 q3 q4 => ⟨Or.inl rfl, hQe 4 (tkS b L i) (by unfold lawF; rw [if_pos c1]) m2 (q2 h4).1 (q2 h4).2 (cFr.df ⟨q3, fun x hx => q4 x (by omega) (by omega)⟩)⟩)⟩
  have f1 : dFr mem m1 := ⟨fun k hk => by funext x; rw [e1, zup_k (by omega)], by rw [e1, zup_j (by omega)], by rw [e1, zup_j (by omega)]⟩
  have hR : lawF b L i st = bnd (numF b L (tkE b L i) 0 3) (fun v => bnd (sgnF b L v.2) (fun j => .inr (j, (gLw st.1 v.1, st.2.1, st.2.2.1, 1, st.2.2.2.2)))) := by unfold lawF; rw [if_neg (fun z => z c1)]
  refine c_Ta_takeNumber (d := d) (hB.df f1) (i := tkE b L i) hle.2.2.1 (by rw [e1, zup_j (by omega), h6]) (by rw [e1, zup_j (by omega), h4]) (fun c p hn m2 a1 a2 a3 => ⟨fun q => absurd rfl q, fun _ => hQe c p (by rw [hR, hn]; rfl) m2 a1 a2 (f1.trans a3.df)⟩) (fun v j hn m2 a1 a2 a3 a4 a5 => ⟨fun _ m3 e3 => ?_, fun q => absurd q (by decide)⟩)
  rw [a1] at e3
  have f3 : dFr mem m3 := (f1.trans a5.df).trans ⟨fun k hk => by funext x; rw [e3, zup_k (by omega)], by rw [e3, zup_k (by omega)], by rw [e3, zup_k (by omega)]⟩
  have hv := numF_r hn
  have hj : j ≤ L := by rw [hv.2.2.2]; exact (tk_le hle.2.2.1).2.2.1
  have hW' := hW.law (v := v) hv.2.1
  refine c_Ta_takeSign (d := d) (hB.df f3) (i := j) hj (by rw [e3, zup_k (by omega), a2]) (by rw [e3, zup_k (by omega), a3]) (fun c p hs m4 b1 b2 b3 => ⟨Or.inl rfl, hQe c p (by rw [hR, hn]; show bnd (sgnF b L j) _ = _; rw [hs]; rfl) m4 b1 b2 (f3.trans b3.df)⟩) (fun j' hs m4 b1 b2 b3 => ⟨Or.inr rfl, hQk j' _ (by rw [hR, hn]; show bnd (sgnF b L j) _ = _; rw [hs]; rfl) m4 (cD.c ?_ hW' b3) hW' b1 b2 (f3.trans b3.df)⟩)
  have e12 : ∀ k, 55 ≤ k → m2 k = mem k := fun k hk => by rw [a5.1 k (by omega)]; funext x; rw [e1, zup_k (by omega)]
  obtain ⟨h1, h2, h3, h4, h5⟩ := d1
  have e3k : ∀ k, 57 ≤ k → m3 k = mem k := fun k hk => by funext x; rw [e3, zup_k (by omega), e12 k (by omega)]
  have e355 : m3 55 = mem 55 := by funext x; rw [e3, zup_k (by omega), e12 55 (by omega)]
  have hP5 := hW.2.2.1
  have hW0 := hW.2.2.2.1
  refine ⟨⟨h1.law hW.1.1.2 (by rw [e3, zup_e]) (fun x hx => by rw [e3, zup_j hx, e12 _ (by omega)]) (fun k k1 k2 => e3k k (by omega)), ?_, fun p hp => ?_, ?_, fun p hp => ?_⟩, ?_, ?_, ?_⟩
  · show m3 55 2 = _
    rw [e355]; exact h2
  · have hp : (p : Int) < gP st.1 := hp
    have := h3 p hp
    have r1 : gR (gLw st.1 v) p = gR st.1 p := gLw_at _ _ (by omega)
    have r2 : gT (gLw st.1 v) p = gT st.1 p := gLw_at _ _ (by omega)
    have r3 : gU (gLw st.1 v) p = gU st.1 p := gLw_at _ _ (by omega)
    show Ws m3 (55 + 8 + p) (gR (gLw st.1 v) p) (gT (gLw st.1 v) p) (gU (gLw st.1 v) p)
    rw [r1, r2, r3]
    unfold Ws at this ⊢
    rw [e3k _ (by omega)]
    exact this
  · show m3 55 4 = _
    rw [e355]; exact h4
  · have hp : (p : Int) < gW st.1 := hp
    omega
  · show m3 53 10 = _
    rw [e3, zup_k (by omega), a5.2 10 (by omega), e1, zup_j (by omega)]; exact d2
  · show m3 53 11 = 1
    rw [e3, zup_k (by omega), a5.2 11 (by omega), e1, zup_e]
  · show m3 53 12 = _
    rw [e3, zup_k (by omega), a5.2 12 (by omega), e1, zup_j (by omega)]; exact d4
theorem c_Ta_takeWalled {st : zPD} (hB : cB mem b L) (hi : i ≤ L) (h6 : mem 53 6 = (tkE b L i : Int)) (h4 : mem 53 4 = 0) (hW : pdW st) (hd : cD mem st) (hQe : ∀ c p, wallF b L i st = .inl (c, p) → ∀ m' : zMem, m' 53 4 = c → m' 53 5 = (p : Int) → dFr mem m' → Q 0 m') (hQk : ∀ j st', wallF b L i st = .inr (j, st') → ∀ m' : zMem, cD m' st' → pdW st' → m' 53 6 = (j : Int) → m' 53 4 = 0 → dFr mem m' → Q 1 m') : zC (d + 5) K_Ta_takeWalled [(2, Int.ofNat 53)] mem Q := by
  obtain ⟨d1, d2, d3, d4⟩ := id hd
  have hle := tk_le (b := b) hi
  refine v_Ta_takeWalled (c_Ta_takeNumber (d := d) hB (i := tkE b L i) hle.2.2.1 h6 h4 (fun c p hn m2 a1 a2 a3 => ⟨fun q => absurd rfl q, fun _ => hQe c p (by unfold wallF; rw [hn]; rfl) m2 a1 a2 a3.df⟩) (fun v j hn m2 a1 a2 a3 a4 a5 => ⟨fun _ => ?_, fun q => absurd q (by decide)⟩))
  have hv := numF_r hn
  have hj : j ≤ L := by rw [hv.2.2.2]; exact (tk_le hle.2.2.1).2.2.1
  have w12 : m2 53 12 = st.2.2.2.2 := by rw [a5.2 12 (by omega), d4]
  have hR : wallF b L i st = if zand (zshr st.2.2.2.2 v) 1 ≠ 0 then .inl (4, tkS b L (tkE b L i)) else bnd (sgnF b L j) (fun j => .inr (j, (st.1, st.2.1, st.2.2.1, st.2.2.2.1, zor st.2.2.2.2 (zshl 1 v)))) := by unfold wallF; rw [hn]; rfl
  rw [w12, a1, a4]
  refine ⟨fun c1 m3 e3 => ?_, fun c1 => c_Ta_refuse (d := d + 3) (fun m3 q1 q2 q3 q4 => ⟨Or.inl rfl, hQe 4 _ (by rw [hR, if_pos c1]) m3 (q2 a3).1 (q2 a3).2 (a5.df.trans (cFr.df ⟨q3, fun x hx => q4 x (by omega) (by omega)⟩))⟩)⟩
  rw [if_neg (fun z => z c1)] at hR
  have f3 : dFr mem m3 := a5.df.trans ⟨fun k hk => by funext x; rw [e3, zup_k (by omega)], by rw [e3, zup_j (by omega)], by rw [e3, zup_j (by omega)]⟩
  have hW' : pdW (st.1, st.2.1, st.2.2.1, st.2.2.2.1, zor st.2.2.2.2 (zshl 1 v)) := by
    obtain ⟨x1, x2, x3, x4, x5, x6, x7, x8, x9⟩ := hW
    refine ⟨x1, x2, x3, x4, x5, x6, x7, x8, ?_⟩
    have := zB_small (x := zor st.2.2.2.2 (zshl 1 v)) (zor_I _ _) (n := 14) (by omega) (fun k k1 k2 q => by
      rw [(zB_put k2 (by omega) (by omega)).1] at q
      rcases q with q | q
      · exact zB_of_lt x9.1 (n := 14) (by omega) (by omega) k1 q
      · omega)
    exact ⟨this.1, by show zor st.2.2.2.2 (zshl 1 v) < 16384; omega⟩
  refine c_Ta_takeSign (d := d) (hB.df f3) (i := j) hj (by rw [e3, zup_j (by omega), a2]) (by rw [e3, zup_j (by omega), a3]) (fun c p hs m4 b1 b2 b3 => ⟨Or.inl rfl, hQe c p (by rw [hR, hs]; rfl) m4 b1 b2 (f3.trans b3.df)⟩) (fun j' hs m4 b1 b2 b3 => ⟨Or.inr rfl, hQk j' _ (by rw [hR, hs]; rfl) m4 (cD.c ?_ hW' b3) hW' b1 b2 (f3.trans b3.df)⟩)
  have hd2 := hd.c hW a5
  obtain ⟨⟨h1, h2, h3, h4, h5⟩, k2, k3, k4⟩ := hd2
  have e3k : ∀ k, k ≠ 53 → m3 k = m2 k := fun k hk => by funext x; rw [e3, zup_k hk]
  refine ⟨⟨h1.fr (fun k k1 k2 => e3k k (by omega)), by rw [e3k 55 (by omega)]; exact h2, fun p hp => ?_, by rw [e3k 55 (by omega)]; exact h4, fun p hp => by rw [e3k _ (by omega)]; exact h5 p hp⟩, ?_, ?_, ?_⟩
  · have := h3 p hp
    unfold Ws at this ⊢
    rw [e3k _ (by omega)]
    exact this
  · show m3 53 10 = _
    rw [e3, zup_j (by omega)]; exact k2
  · show m3 53 11 = _
    rw [e3, zup_j (by omega)]; exact k3
  · show m3 53 12 = _
    rw [e3, zup_e]
end
