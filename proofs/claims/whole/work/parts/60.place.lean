section
variable {d w : Nat} {mem m' m2 : zMem} {Q : Int → zMem → Prop} {R S : zMem → Prop} {g g' : zPg} {rm pl pl0 r t u : Int}
/-- a place of the reference stands for a walker -/
def pRep (g : zPg) (pl r t u : Int) : Prop := pOK g pl ∧ pR g pl = r ∧ pL pl = t ∧ pB pl = if gL g = 1 then zn4 u else -1
theorem pRep.tb (h : pRep g pl r t u) : t = -4 ∨ (0 ≤ t ∧ t < gN g) := by
  obtain ⟨⟨h1, h2, h3, h4⟩, -, h5, -⟩ := h
  rw [← h5]
  unfold pL
  split <;> omega
theorem pRep.may (h : pRep g pl r t u) (k : Nat) : pMay g pl k ↔ gMay g r (zn4 t) (zn4 u) k := by
  have ht := h.tb
  obtain ⟨h1, h2, h3, h4⟩ := h
  unfold pMay gMay
  rw [h2, h3]
  refine and_congr Iff.rfl (not_congr ?_)
  unfold gBar
  by_cases q : t = -4
  · have e : zn4 t = -1 := by unfold zn4; rw [if_pos q]
    rw [e]
    constructor <;> (rintro ⟨q1, -⟩; omega)
  · have e : zn4 t = t := by unfold zn4; rw [if_neg q]
    rw [e]
    by_cases ql : gL g = 1
    · rw [h4, if_pos ql]
    · constructor <;> (rintro ⟨q1, q2⟩; exact ⟨q1, by omega⟩)
theorem pMk_at {room last bef side : Int} (hl : 0 ≤ last ∧ last < 14) (hb : bef = -4 ∨ (0 ≤ bef ∧ bef < 14)) (hs : side = 0 ∨ side = 1) : ∀ x, x = pMk room last bef side → (0 ≤ x ∧ x < 420) ∧ x / 15 = 2 * last + side ∧ x / 30 = last ∧ x % 15 = zn4 bef + 1 := by
  intro x hx
  unfold pMk at hx
  rw [if_neg (show ¬ last = -4 by omega)] at hx
  unfold zn4
  split at hx
  · rename_i q; rw [if_pos q]; omega
  · rename_i q; rw [if_neg q]; omega
theorem pRep.step (hD : gDo g) (h : pRep g pl r t u) {k : Nat} (hk : (k : Int) < gN g) : pRep g (pStep g pl k) (gBy g k r) k t := by
  have ht := h.tb
  have hN := hD.1
  obtain ⟨h1, h2, h3, h4⟩ := h
  obtain ⟨s1, s2⟩ := pStep_at (g := g) (pl := pl) (k := k) (by omega) (by rw [h3]; omega)
  have hb : ∀ b : Int, b = (if gL g = 1 then pL pl else -4) → b = -4 ∨ (0 ≤ b ∧ b < 14) := by
    intro b e
    rw [e]
    split
    · rw [h3]; omega
    · exact Or.inl rfl
  have hs : ∀ s : Int, s = (if gA g k = pR g pl then 1 else 0) → s = 0 ∨ s = 1 := by
    intro s e
    rw [e]
    split
    · exact Or.inr rfl
    · exact Or.inl rfl
  obtain ⟨x1, x2, x3, x4⟩ := pMk_at (room := 0) (last := k) (by omega) (hb _ rfl) (hs _ rfl) (pStep g pl k) rfl
  have hss := hs _ rfl
  refine ⟨⟨by omega, by omega, fun q => by omega, fun _ => by omega⟩, by rw [s2 g (fun _ _ => rfl), h2], ?_, ?_⟩
  · unfold pL
    rw [if_neg (by omega), x3]
  · unfold pB
    rw [x4]
    by_cases q : gL g = 1
    · rw [if_pos q, if_pos q, h3]
      omega
    · rw [if_neg q, if_neg q]
      rfl
theorem pRep.one (hD : gDo g) (hrm : rm ≤ 10) {p : Nat} (hW : gWk g rm p) : pRep g (pOf g p) (gR g p) (gT g p) (gU g p) := by
  obtain ⟨h1, h2, h3, h4⟩ := pOf_ok hD hrm hW
  refine ⟨h1, h2, h3, ?_⟩
  rw [h4]
  unfold gBf zn4
  by_cases q : gL g = 1
  · rw [if_pos q, if_pos q]
  · rw [if_neg q, if_neg q, if_pos rfl]
def pNew (r : Int) : Int := 15 * (28 + r)
theorem pRep.new {r : Int} (hr : 0 ≤ r ∧ r < 10) : pRep g (pNew r) r (-4) (-4) := by
  unfold pNew
  refine ⟨⟨by omega, by omega, fun _ => by omega, fun _ => by omega⟩, ?_, ?_, ?_⟩
  · unfold pR; rw [if_pos (by omega)]; omega
  · unfold pL; rw [if_pos (by omega)]
  · unfold pB zn4; rw [if_pos rfl]; split <;> omega
theorem c_Mo_newIn {r : Int} (hr : 0 ≤ r ∧ r < 10) (hQ : Q (pNew r) mem) : zC (d + 2) K_Mo_newIn [(0, r)] mem Q := by
  refine v_Mo_newIn (c_Mo_placeOf (d := d) hr (Or.inl rfl) (Or.inl rfl) (by omega) ?_)
  have : pMk r (-4) (-4) 0 = pNew r := by unfold pMk pNew; rw [if_pos rfl, if_pos rfl]; omega
  rw [this]
  exact hQ
/-! judge -/
noncomputable def jP (g : zPg) : Nat → Nat → Int → Int
  | 0, _, _ => -4
  | n + 1, i, pl => @ite Int (pMay g pl (g (74 + i)).toNat) (Classical.propDecidable _) (jP g n (i + 1) (pStep g pl (g (74 + i)).toNat)) (i : Int)
theorem jP_y {n i : Nat} (h : pMay g pl (g (74 + i)).toNat) : jP g (n + 1) i pl = jP g n (i + 1) (pStep g pl (g (74 + i)).toNat) := if_pos h
theorem jP_n {n i : Nat} (h : ¬ pMay g pl (g (74 + i)).toNat) : jP g (n + 1) i pl = (i : Int) := if_neg h
theorem l_Od_judge (hI : Ipal mem) (hQ : ∀ m', (∀ k, k ≠ 69 → m' k = mem k) → Q (jP (mem 123) (gW (mem 123)).toNat 0 pl0) m') : ∀ (n i : Nat) (pl r t u : Int) (m : zMem), i + n = (gW (mem 123)).toNat → jP (mem 123) (gW (mem 123)).toNat 0 pl0 = jP (mem 123) n i pl → pRep (mem 123) pl r t u → (0 ≤ r ∧ r < 10) → (u = -4 ∨ (0 ≤ u ∧ u < gN (mem 123))) → Ws m 69 r t u → (∀ k, k ≠ 69 → m k = mem k) → zG (d + 4) M_Od_judge 26 [(2, Int.ofNat 0), (9, 0), (0, (i : Int))] [] m Q := by
  obtain ⟨⟨w1, w2, w3, w4, w5, w6, w7⟩, hP⟩ := id hI
  have h14 : mem 1 4 = gW (mem 123) := hP.2.2.2.1
  intro n
  induction n with
  | zero =>
    intro i pl r t u m hi hj hp hr hu hW hf
    refine v_Od_judge_26 ⟨fun c => ?_, fun c => ?_⟩
    · have := hQ m hf
      rw [hj] at this
      exact this
    · rw [hf 1 (by omega), h14] at c
      omega
  | succ n ih =>
    intro i pl r t u m hi hj hp hr hu hW hf
    refine v_Od_judge_26 ⟨fun c => ?_, fun c => ⟨by omega, ?_⟩⟩
    · rw [hf 1 (by omega), h14] at c
      omega
    · have h0 := hP.2.2.2.2 i (by omega)
      have h0 : mem 14 i = mem 123 (74 + i) := h0
      have h7 := w7 i (by omega)
      rw [Int.toNat_natCast, hf 14 (by omega), h0]
      have hd : (((mem 123 (74 + i)).toNat : Nat) : Int) < gN (mem 123) := by omega
      obtain ⟨da, db, -⟩ := w1.2.2 _ hd
      refine c_Wa_step (d := d) (w := 69) (by decide) (hP.1.fr (fun k k1 k2 => hf k (by omega))) w1 hW hr hp.tb hu (by omega) (fun _ hm m3 hW3 hf3 => ⟨fun _ x2 ex => ?_, fun q => absurd q (by decide)⟩) (fun hm => ⟨fun q => absurd rfl q, fun _ => ?_⟩)
      · rw [za (by omega)] at ex
        rw [ex]
        refine ih (i + 1) (pStep (mem 123) pl (mem 123 (74 + i)).toNat) (gBy (mem 123) (mem 123 (74 + i)).toNat r) (mem 123 (74 + i)) t m3 (by omega) ?_ ?_ ?_ hp.tb hW3 (fun k hk => by rw [hf3 k hk, hf k hk])
        · rw [hj, jP_y ((hp.may _).mpr hm)]
        · have := hp.step w1 hd
          rw [Int.toNat_of_nonneg h7.1] at this
          exact this
        · unfold gBy; split <;> omega
      · have := hQ m hf
        rw [hj, jP_n (fun q => hm ⟨h7, (hp.may _).mp q⟩)] at this
        exact this
theorem l_Mo_judge (hI : Ipal mem) (hQ : Q (jP (mem 123) (gW (mem 123)).toNat 0 pl0) mem) : ∀ (n i : Nat) (pl r t u : Int), i + n = (gW (mem 123)).toNat → jP (mem 123) (gW (mem 123)).toNat 0 pl0 = jP (mem 123) n i pl → pRep (mem 123) pl r t u → zG (d + 3) M_Mo_judge 17 [(2, Int.ofNat 122), (9, 0), (0, pl), (0, (i : Int))] [] mem Q := by
  obtain ⟨⟨w1, w2, w3, w4, w5, w6, w7⟩, hP⟩ := id hI
  have e86 : mem 123 86 = gW (mem 123) := rfl
  intro n
  induction n with
  | zero =>
    intro i pl r t u hi hj hp
    refine v_Mo_judge_17 ⟨fun c => ?_, fun c => by omega⟩
    rw [hj] at hQ
    exact hQ
  | succ n ih =>
    intro i pl r t u hi hj hp
    have h7 := w7 i (by omega)
    have hd : (((mem 123 (74 + i)).toNat : Nat) : Int) < gN (mem 123) := by omega
    refine v_Mo_judge_17 ⟨fun c => by omega, fun c => ?_⟩
    rw [za (by omega), show ((74 : Int) + i).toNat = 74 + i by omega]
    refine ⟨by omega, c_Mo_isDoor (d := d) w1.1.1 (fun _ => ⟨fun q => absurd q (by decide), fun _ => ⟨by omega, ?_⟩⟩) (fun q => absurd h7 q)⟩
    refine c_Mo_stepped (d := d) hp.1 w1 h7 (fun hm => ⟨fun _ x3 ex => ?_, fun q => ?_⟩) (fun hm => ⟨fun q => absurd rfl q, fun _ => ?_⟩)
    · rw [za (by omega)] at ex
      rw [ex]
      refine ih (i + 1) _ (gBy (mem 123) (mem 123 (74 + i)).toNat r) _ t (by omega) ?_ (hp.step w1 hd)
      rw [hj, jP_y hm]
    · have := (hp.step w1 hd).1.1
      omega
    · rw [hj, jP_n hm] at hQ
      exact hQ
theorem T_judge {a : Int} (hI : Inv mem) (hR : ∀ m', Inv m' → R m') : zC (d + 5) K_Od_judge [(2, Int.ofNat 0), (0, a)] mem (fun r1 m1 => zC (d + 5) K_Mo_judge [(2, Int.ofNat 122), (0, a)] m1 (fun r2 m2 => (r1 = r2 → R m2) ∧ (r1 ≠ r2 → S m2))) := by
  obtain ⟨⟨w1, w2, w3, w4, w5, w6, w7⟩, hP⟩ := id hI.1
  have h0 : mem 2 0 = mem 122 1 := hP.1.1
  refine v_Od_judge (c_Ho_hasRoom (d := d + 3) (Or.inl rfl) (fun c => ⟨fun _ => ?_, fun q => absurd q (by decide)⟩) (fun c => ⟨fun q => absurd rfl q, fun _ => ?_⟩))
  · rw [h0] at c
    refine c_Wa_standNew (d := d + 3) (w := 69) (by decide) (fun m1 hW hf => ?_)
    have hI1 : Ipal m1 := hI.1.fr (fun k k1 k2 => hf k (by omega)) (fun i _ => by rw [hf 123 (by omega)]) (by rw [hf 122 (by omega)])
    have e3 : m1 123 = mem 123 := hf 123 (by omega)
    refine l_Od_judge (d := d + 1) (mem := m1) (pl0 := pNew a) hI1 (fun m2 hf2 => ?_) (gW (m1 123)).toNat 0 (pNew a) a (-4) (-4) m1 (by omega) rfl (pRep.new (by omega)) (by omega) (Or.inl rfl) hW (fun _ _ => rfl)
    have hs : zKp mem m2 := zKp.cl (fun k hk => by rw [hf2 k (by omega), hf k (by omega)])
    have e32 : m2 123 = m1 123 := hf2 123 (by omega)
    refine v_Mo_judge (c_Mo_isRoom (d := d + 2) (by rw [hs.ro]; omega) (fun _ => ⟨fun _ => c_Mo_newIn (d := d + 2) (by omega) ?_, fun q => absurd q (by decide)⟩) (fun q => absurd (by rw [hs.ro]; omega) q))
    refine l_Mo_judge (d := d + 2) (pl0 := pNew a) (hI.1.sc hs) ?_ (gW (m2 123)).toNat 0 (pNew a) a (-4) (-4) (by omega) rfl (pRep.new (by omega))
    rw [e32]
    exact ⟨fun _ => hR m2 (hI.sc hs), fun q => absurd rfl q⟩
  · rw [h0] at c
    exact v_Mo_judge (c_Mo_isRoom (d := d + 2) (by omega) (fun q => absurd q c) (fun _ => ⟨fun q => absurd rfl q, fun _ => ⟨fun _ => hR mem hI, fun q => absurd rfl q⟩⟩))
end
