section
/-! palace: the class's lines, one and door. -/
variable {d w : Nat} {mem m m' m2 : zMem} {Q : Int → zMem → Prop} {b : Nat → Int} {L i j : Nat} {g g' : zPg} {rm v : Int}
theorem gOne_at {r : Int} (hP : 0 ≤ gP g ∧ gP g < 5) : gP (gOne g r) = gP g + 1 ∧ gEq g (gOne g r) ∧ gW (gOne g r) = gW g ∧ (∀ p : Nat, (p : Int) < gP g → gR (gOne g r) p = gR g p ∧ gT (gOne g r) p = gT g p ∧ gU (gOne g r) p = gU g p) ∧ (gR (gOne g r) (gP g).toNat = r ∧ gT (gOne g r) (gP g).toNat = -4 ∧ gU (gOne g r) (gP g).toNat = -4) := by
  have key : ∀ i, i ≠ 57 + 3 * (gP g).toNat → i ≠ 58 + 3 * (gP g).toNat → i ≠ 59 + 3 * (gP g).toNat → i ≠ 72 → gOne g r i = g i := fun i h1 h2 h3 h4 => by
    unfold gOne
    rw [if_neg h1, if_neg h2, if_neg h3, if_neg h4]
  refine ⟨?_, ⟨fun i hi => key i (by omega) (by omega) (by omega) (by omega), key 73 (by omega) (by omega) (by omega) (by omega)⟩, key 86 (by omega) (by omega) (by omega) (by omega), fun p hp => ⟨key _ (by omega) (by omega) (by omega) (by omega), key _ (by omega) (by omega) (by omega) (by omega), key _ (by omega) (by omega) (by omega) (by omega)⟩, ?_, ?_, ?_⟩
  · show gOne g r 72 = _
    unfold gOne
    rw [if_neg (by omega), if_neg (by omega), if_neg (by omega), if_pos rfl]
  · show gOne g r (57 + 3 * (gP g).toNat) = r
    unfold gOne
    rw [if_pos rfl]
  · show gOne g r (58 + 3 * (gP g).toNat) = -4
    unfold gOne
    rw [if_neg (by omega), if_pos rfl]
  · show gOne g r (59 + 3 * (gP g).toNat) = -4
    unfold gOne
    rw [if_neg (by omega), if_neg (by omega), if_pos rfl]
theorem pdW.one {st : zPD} {r : Int} (hW : pdW st) (hP : gP st.1 < 5) (hr : 0 ≤ r ∧ r < 10) : pdW (gOne st.1 r, st.2) := by
  obtain ⟨x1, x2, x3, x4, x5, x6, x7, x8, x9⟩ := hW
  obtain ⟨a1, a2, a3, a4, a5⟩ := gOne_at (g := st.1) (r := r) ⟨x3.1, hP⟩
  have hN := x1.1
  refine ⟨a2.Do x1, x2, ?_, ?_, fun k hk => ?_, fun p hp => ?_, x7, x8, x9⟩
  · show 0 ≤ gP (gOne st.1 r) ∧ gP (gOne st.1 r) ≤ 5
    omega
  · show gW (gOne st.1 r) = 0
    rw [a3, x4]
  · have hk : (k : Int) < gN (gOne st.1 r) := hk
    rw [a2.N] at hk
    show gX (gOne st.1 r) k = 0
    rw [(a2.at (k := k) (by omega)).2.2.2]
    exact x5 k hk
  · have hp : (p : Int) < gP (gOne st.1 r) := hp
    show (0 ≤ gR (gOne st.1 r) p ∧ gR (gOne st.1 r) p < 10) ∧ gT (gOne st.1 r) p = -4 ∧ gU (gOne st.1 r) p = -4
    by_cases e : (p : Int) = gP st.1
    · rw [show p = (gP st.1).toNat by omega, a5.1, a5.2.1, a5.2.2]
      exact ⟨hr, rfl, rfl⟩
    · obtain ⟨c1, c2, c3⟩ := a4 p (by omega)
      rw [c1, c2, c3]
      exact x6 p (by omega)
theorem zrt62 {p : Nat} (h : p < 5) : zrt 62 p = 63 + p ∧ zkd (63 + p) = 9 := (show ∀ p, p < 5 → zrt 62 p = 63 + p ∧ zkd (63 + p) = 9 by decide +kernel) p h
theorem c_Ta_takeOne {st : zPD} (hB : cB mem b L) (hi : i ≤ L) (h7 : mem 53 7 = (tkS b L i : Int)) (h6 : mem 53 6 = (tkE b L i : Int)) (h4 : mem 53 4 = 0) (hW : pdW st) (hd : cD mem st) (hQe : ∀ c p, oneF b L i st = .inl (c, p) → ∀ m' : zMem, m' 53 4 = c → m' 53 5 = (p : Int) → dFr mem m' → Q 0 m') (hQk : ∀ j st', oneF b L i st = .inr (j, st') → ∀ m' : zMem, cD m' st' → pdW st' → m' 53 6 = (j : Int) → m' 53 4 = 0 → dFr mem m' → Q 1 m') : zC (d + 5) K_Ta_takeOne [(2, Int.ofNat 53)] mem Q := by
  obtain ⟨d1, d2, d3, d4⟩ := id hd
  have hle := tk_le (b := b) hi
  have h552 : mem 55 2 = gP st.1 := d1.2.1
  have hP := hW.2.2.1
  have hW0 := hW.2.2.2.1
  refine v_Ta_takeOne ?_
  rw [h552, h7]
  refine ⟨fun c1 => ?_, fun c1 => c_Ta_refuse (d := d + 3) (fun m2 q1 q2 q3 q4 => ⟨Or.inl rfl, hQe 5 (tkS b L i) (by unfold oneF; rw [if_pos c1]) m2 (q2 h4).1 (q2 h4).2 (cFr.df ⟨q3, fun x hx => q4 x (by omega) (by omega)⟩)⟩)⟩
  have hR : oneF b L i st = bnd (numF b L (tkE b L i) 0 9) (fun v => bnd (sgnF b L v.2) (fun j => .inr (j, (gOne st.1 v.1, st.2)))) := by unfold oneF; rw [if_neg (by omega)]
  refine c_Ta_takeNumber (d := d) hB (i := tkE b L i) hle.2.2.1 h6 h4 (fun c p hn m2 a1 a2 a3 => ⟨fun q => absurd rfl q, fun _ => hQe c p (by rw [hR, hn]; rfl) m2 a1 a2 a3.df⟩) (fun v j hn m2 a1 a2 a3 a4 a5 => ⟨fun _ => ?_, fun q => absurd q (by decide)⟩)
  have hv := numF_r hn
  have hj : j ≤ L := by rw [hv.2.2.2]; exact (tk_le hle.2.2.1).2.2.1
  have e55 : m2 55 2 = gP st.1 := by rw [a5.1 55 (by omega), h552]
  obtain ⟨z1, z2⟩ := zrt62 (p := (gP st.1).toNat) (by omega)
  rw [e55, a1, z1]
  refine ⟨by omega, c_Wa_standNew (d := d + 3) z2 (fun m3 s1 s2 m4 e4 => ?_)⟩
  have e553 : m3 55 2 = gP st.1 := by rw [s2 55 (by omega), e55]
  rw [e553, za (by omega)] at e4
  have f4 : dFr mem m4 := a5.df.trans ⟨fun k hk => by funext x; rw [e4, zup_k (by omega), s2 k (by omega)], by rw [e4, zup_k (by omega), s2 53 (by omega)], by rw [e4, zup_k (by omega), s2 53 (by omega)]⟩
  have hW' := hW.one c1 (r := v) (by omega)
  have k53 : ∀ x, m4 53 x = m2 53 x := fun x => by rw [e4, zup_k (by omega), s2 53 (by omega)]
  refine c_Ta_takeSign (d := d) (hB.df f4) (i := j) hj (by rw [k53, a2]) (by rw [k53, a3]) (fun c p hs m5 b1 b2 b3 => ⟨Or.inl rfl, hQe c p (by rw [hR, hn]; show bnd (sgnF b L j) _ = _; rw [hs]; rfl) m5 b1 b2 (f4.trans b3.df)⟩) (fun j' hs m5 b1 b2 b3 => ⟨Or.inr rfl, hQk j' _ (by rw [hR, hn]; show bnd (sgnF b L j) _ = _; rw [hs]; rfl) m5 (cD.c ?_ hW' b3) hW' b1 b2 (f4.trans b3.df)⟩)
  obtain ⟨o1, o2, o3, o4, o5⟩ := gOne_at (g := st.1) (r := v) ⟨hP.1, c1⟩
  obtain ⟨h1, h2, h3, h4, h5⟩ := d1
  have ek : ∀ k, 55 < k → k ≠ 63 + (gP st.1).toNat → m4 k = mem k := fun k k1 k2 => by funext x; rw [e4, zup_k (by omega), s2 k k2, a5.1 k (by omega)]
  refine ⟨⟨o2.Hs hW.1.1.2 (fun k k1 k2 => ek k (by omega) (by omega)) h1, ?_, fun p hp => ?_, ?_, fun p hp => ?_⟩, ?_, ?_, ?_⟩
  · show m4 55 2 = gP (gOne st.1 v)
    rw [e4, zup_e, o1]
  · have hp : (p : Int) < gP (gOne st.1 v) := hp
    show Ws m4 (55 + 8 + p) (gR (gOne st.1 v) p) (gT (gOne st.1 v) p) (gU (gOne st.1 v) p)
    by_cases e : (p : Int) = gP st.1
    · rw [show p = (gP st.1).toNat by omega, o5.1, o5.2.1, o5.2.2]
      unfold Ws at s1 ⊢
      have : m4 (55 + 8 + (gP st.1).toNat) = m3 (63 + (gP st.1).toNat) := by funext x; rw [e4, zup_k (by omega), show 55 + 8 + (gP st.1).toNat = 63 + (gP st.1).toNat by omega]
      rw [this]
      exact s1
    · obtain ⟨c1, c2, c3⟩ := o4 p (by omega)
      have := h3 p (by omega)
      rw [c1, c2, c3]
      unfold Ws at this ⊢
      rw [ek _ (by omega) (by omega)]
      exact this
  · show m4 55 4 = gW (gOne st.1 v)
    rw [e4, zup_j (by omega), s2 55 (by omega), a5.1 55 (by omega), o3]
    exact h4
  · have hp : (p : Int) < gW (gOne st.1 v) := hp
    rw [o3] at hp
    omega
  · show m4 53 10 = _
    rw [k53, a5.2 10 (by omega)]; exact d2
  · show m4 53 11 = _
    rw [k53, a5.2 11 (by omega)]; exact d3
  · show m4 53 12 = _
    rw [k53, a5.2 12 (by omega)]; exact d4
end
