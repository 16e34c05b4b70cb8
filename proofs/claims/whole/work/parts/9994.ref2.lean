section
/-! palace: the reference's lines up to the sign. -/
variable {d : Nat} {mem m m' m2 : zMem} {Q : Int → zMem → Prop} {b : Nat → Int} {L i j : Nat} {st st' : zPD} {g : zPg} {ws h v : Int}
def roomsP (b : Nat → Int) (L i : Nat) (st : zPD) : Sum (Int × Nat) (Nat × zPD) :=
  if st.2.2.1 ≠ 0 then .inl (4, tkS b L i) else bnd (numF b L (tkE b L i) 2 10) (fun v => .inr (v.2, (st.1, v.1, 1, st.2.2.2.1, st.2.2.2.2)))
def lawP (b : Nat → Int) (L i : Nat) (st : zPD) : Sum (Int × Nat) (Nat × zPD) :=
  if st.2.2.2.1 ≠ 0 then .inl (4, tkS b L i) else bnd (numF b L (tkE b L i) 0 3) (fun v => .inr (v.2, (gLw st.1 v.1, st.2.1, st.2.2.1, 1, st.2.2.2.2)))
def oneP (b : Nat → Int) (L i : Nat) (st : zPD) : Sum (Int × Nat) (Nat × zPD) :=
  if 5 ≤ gP st.1 then .inl (5, tkS b L i) else bnd (numF b L (tkE b L i) 0 9) (fun v => .inr (v.2, (gOne st.1 v.1, st.2)))
def wallP (b : Nat → Int) (L i : Nat) (st : zPD) : Sum (Int × Nat) (Nat × zPD) :=
  bnd (numF b L (tkE b L i) 0 13) (fun v => if zand (zshr st.2.2.2.2 v.1) 1 ≠ 0 then .inl (4, tkS b L (tkE b L i)) else .inr (v.2, (st.1, st.2.1, st.2.2.1, st.2.2.2.1, zor st.2.2.2.2 (zshl 1 v.1))))
noncomputable def colP (b : Nat → Int) (L i : Nat) : Sum (Int × Nat) (Int × Nat) :=
  if tkK b L i = 2 then (if colF b (tkS b L i) (tkE b L i) = 0 then .inl (2, tkS b L i) else .inr (colF b (tkS b L i) (tkE b L i), tkE b L i)) else .inr (0, i)
noncomputable def doorP (b : Nat → Int) (L i : Nat) (st : zPD) : Sum (Int × Nat) (Nat × zPD) :=
  if 14 ≤ gN st.1 then .inl (5, tkS b L i) else bnd (numF b L (tkE b L i) 0 9) (fun v => bnd (rmF b L v.2 v.1) (fun u => bnd (colP b L u.2) (fun c => .inr (c.2, (gAdd st.1 v.1 u.1 c.1, st.2)))))
def sgP (b : Nat → Int) (L : Nat) (x : Sum (Int × Nat) (Nat × zPD)) : Sum (Int × Nat) (Nat × zPD) := bnd x (fun r => bnd (sgnF b L r.1) (fun j => .inr (j, r.2)))
theorem bnd_a {α β γ δ : Type} (x : Sum α β) (f : β → Sum α γ) (g : γ → Sum α δ) : bnd (bnd x f) g = bnd x (fun y => bnd (f y) g) := by
  cases x <;> rfl
theorem bnd_c {α β γ : Type} (x : Sum α β) {f f' : β → Sum α γ} (h : ∀ y, f y = f' y) : bnd x f = bnd x f' := by
  cases x with
  | inl a => rfl
  | inr y => exact h y
theorem roomsP_F : roomsF b L i st = sgP b L (roomsP b L i st) := by
  unfold roomsF roomsP sgP
  split
  · rfl
  · rw [bnd_a]; rfl
theorem lawP_F : lawF b L i st = sgP b L (lawP b L i st) := by
  unfold lawF lawP sgP
  split
  · rfl
  · rw [bnd_a]; rfl
theorem oneP_F : oneF b L i st = sgP b L (oneP b L i st) := by
  unfold oneF oneP sgP
  split
  · rfl
  · rw [bnd_a]; rfl
theorem wallP_F : wallF b L i st = sgP b L (wallP b L i st) := by
  unfold wallF wallP sgP
  rw [bnd_a]
  refine bnd_c _ (fun y => ?_)
  split
  · rfl
  · rfl
theorem doorP_F : doorF b L i st = sgP b L (doorP b L i st) := by
  unfold doorF doorP sgP
  split
  · rfl
  · rw [bnd_a]
    refine bnd_c _ (fun v => ?_)
    unfold rmF
    rw [bnd_a, bnd_a]
    refine bnd_c _ (fun u => ?_)
    by_cases e : v.1 = u.1
    · rw [if_pos e, if_pos e.symm]; rfl
    · rw [if_neg e, if_neg (fun q => e q.symm)]
      show _ = bnd (bnd (colP b L u.2) _) _
      rw [bnd_a]
      unfold endF colP
      split
      · split
        · rfl
        · show bnd (bnd _ _) _ = _
          rw [bnd_a]
          rfl
      · show bnd (bnd _ _) _ = _
        rw [bnd_a]
        rfl
theorem c_Mo_readOne (hB : rB mem b L) (hi : i ≤ L) (ht : rTk mem b L i) (k2 : tkK b L i = 2) (hW : pdW st) (hd : rD mem st) (hQe : ∀ c p, oneP b L i st = .inl (c, p) → 0 < c → ∀ m' : zMem, rBr m' c p → vFr mem m' → Q 0 m') (hQk : ∀ j st', oneP b L i st = .inr (j, st') → j ≤ L → pdW st' → ∀ m' : zMem, rTk m' b L j → rD m' st' → vFr mem m' → Q 0 m') : zC (d + 5) K_Mo_readOne [(2, Int.ofNat 122)] mem Q := by
  obtain ⟨t15, tk, tv, t0⟩ := id ht
  obtain ⟨u12, u16, u14⟩ := tk (by omega)
  obtain ⟨d1, d2, d3, d4, d5, d6, d7, d8⟩ := id hd
  have hle := tk_le (b := b) hi
  have hP := hW.2.2.1
  have hN := hW.1.1
  refine v_Mo_readOne fun x1 e1 => ?_
  have ex : x1 = gP st.1 := by rw [e1, d1 72 (by omega)]; rfl
  rw [ex]
  refine ⟨fun c1 => ?_, fun c1 => c_Mo_fails (d := d + 3) (fun m' q1 q2 q3 q4 => hQe 5 (tkS b L i) (by unfold oneP; rw [if_pos (by omega)]) (by decide) m' ⟨(q2 u12).1, by rw [(q2 u12).2, t15]⟩ (rFr.vf ⟨q3, fun x hx => q4 x (by omega) (by omega)⟩))⟩
  have hR : oneP b L i st = bnd (numF b L (tkE b L i) 0 9) (fun v => .inr (v.2, (gOne st.1 v.1, st.2))) := by unfold oneP; rw [if_neg (by omega)]
  rw [zm (by omega), za (x := 57) (by omega), za (by omega), za (by omega)]
  have a0 : (57 + 3 * gP st.1).toNat = 57 + 3 * (gP st.1).toNat := by omega
  have a1 : (57 + 3 * gP st.1 + 1).toNat = 58 + 3 * (gP st.1).toNat := by omega
  have a2 : (57 + 3 * gP st.1 + 2).toNat = 59 + 3 * (gP st.1).toNat := by omega
  rw [a0, a1, a2]
  refine c_Mo_step (d := d + 2) hB (i := tkE b L i) hle.2.2.1 u14 u12 (fun m1 ht1 hf1 => ?_)
  refine c_Mo_room (d := d) (hB.fr hf1) hle.2.2.1 ht1 (fun c p hn hc m2 hb hf2 => ⟨by omega, fun m3 e3 => ⟨by omega, fun m4 e4 => ⟨by omega, fun m5 e5 m6 e6 => ?_⟩⟩⟩) (fun v j hn0 hn hv m2 ht2 hf2 h7 => ⟨by omega, fun m3 e3 => ⟨by omega, fun m4 e4 => ⟨by omega, fun m5 e5 m6 e6 => ?_⟩⟩⟩)
  · rw [rmF_4] at hn
    refine hQe c p (by rw [hR, hn]; rfl) hc m6 (hb.fr (fun j hj => ?_)) ((((((hf1.vf.trans hf2.vf).pg e3).pg e4).pg e5).pg e6))
    rw [e6, zup_k (by omega), e5, zup_k (by omega), e4, zup_k (by omega), e3, zup_k (by omega)]
  · have hv2 := numF_r hn
    have k122 : ∀ j, m6 122 j = m2 122 j := fun j => by rw [e6, zup_k (by omega), e5, zup_k (by omega), e4, zup_k (by omega), e3, zup_k (by omega)]
    have p2 : ∀ x, x < 88 → m2 124 x = st.1 x := fun x hx => by rw [hf2.1 124 (by omega), hf1.1 124 (by omega), d1 x hx]
    have p5 : m5 124 72 = gP st.1 := by
      rw [e5, zup_j (by omega), e4, zup_j (by omega), e3, zup_j (by omega), p2 72 (by omega)]; rfl
    rw [p5, za (by omega)] at e6
    have h2 : ∀ x, x < 12 → x ≠ 7 → m6 122 x = mem 122 x := fun x hx h7 => by rw [k122, hf2.2 x h7 (by omega), hf1.2 x (by omega)]
    refine hQk j (gOne st.1 v, st.2) (by rw [hR, hn]; rfl) (by rw [hv2.2.2.2]; exact (tk_le hle.2.2.1).2.2.1) (hW.one (by omega) (by omega)) m6 (ht2.fr (fun x _ _ => k122 x)) ⟨fun x hx => ?_, fun k k1 k2' => ?_, ?_, ?_, ?_, ?_, ?_, ?_⟩ (((((hf1.vf.trans hf2.vf).pg e3).pg e4).pg e5).pg e6)
    · show m6 124 x = gOne st.1 v x
      unfold gOne
      by_cases q0 : x = 57 + 3 * (gP st.1).toNat
      · rw [if_pos q0, e6, zup_j (by omega), e5, zup_j (by omega), e4, zup_j (by omega), e3, q0, zup_e]
      · rw [if_neg q0]
        by_cases q1 : x = 58 + 3 * (gP st.1).toNat
        · rw [if_pos q1, e6, zup_j (by omega), e5, zup_j (by omega), e4, q1, zup_e]
        · rw [if_neg q1]
          by_cases q2 : x = 59 + 3 * (gP st.1).toNat
          · rw [if_pos q2, e6, zup_j (by omega), e5, q2, zup_e]
          · rw [if_neg q2]
            by_cases q3 : x = 72
            · rw [if_pos q3, e6, q3, zup_e]
            · rw [if_neg q3, e6, zup_j q3, e5, zup_j q2, e4, zup_j q1, e3, zup_j q0, p2 x hx]
    · obtain ⟨o1, o2, o3, o4, o5⟩ := gOne_at (g := st.1) (r := v) (by omega)
      have k1 : gN (gOne st.1 v) ≤ (k : Int) := k1
      rw [o2.N] at k1
      obtain ⟨c1, c2, c3, c4⟩ := o2.at (k := k) k2'
      show gC (gOne st.1 v) k = 0 ∧ gX (gOne st.1 v) k = 0
      rw [c3, c4]
      exact d2 k k1 k2'
    · rw [h2 3 (by omega) (by omega)]; exact d3
    · rw [h2 4 (by omega) (by omega)]; exact d4
    · rw [h2 5 (by omega) (by omega)]; exact d5
    · rw [h2 6 (by omega) (by omega)]; exact d6
    · rw [k122, h7, hf1.2 7 (by omega)]
      exact hiR_one (by omega) (by omega) d7
    · rw [h2 8 (by omega) (by omega)]; exact d8
theorem c_Mo_readWalled (hB : rB mem b L) (hi : i ≤ L) (ht : rTk mem b L i) (k2 : tkK b L i = 2) (hW : pdW st) (hd : rD mem st) (hQe : ∀ c p, wallP b L i st = .inl (c, p) → 0 < c → ∀ m' : zMem, rBr m' c p → vFr mem m' → Q 0 m') (hQk : ∀ j st', wallP b L i st = .inr (j, st') → j ≤ L → pdW st' → ∀ m' : zMem, rTk m' b L j → rD m' st' → vFr mem m' → Q 0 m') : zC (d + 5) K_Mo_readWalled [(2, Int.ofNat 122)] mem Q := by
  obtain ⟨t15, tk, tv, t0⟩ := id ht
  obtain ⟨u12, u16, u14⟩ := tk (by omega)
  obtain ⟨d1, d2, d3, d4, d5, d6, d7, d8⟩ := id hd
  have hle := tk_le (b := b) hi
  have hle2 := tk_le (b := b) hle.2.2.1
  -- broken
  have brk : ∀ (c : Int) (p : Nat) (m2 m3 : zMem) (v : Int), wallP b L i st = .inl (c, p) → 0 < c → rBr m2 c p → vFr mem m2 → m3 = zup m2 122 6 v → ((m3 122 12 ≠ 0 → zG (d + 5) M_Mo_readWalled 83 [(2, Int.ofNat 122), (9, 0)] [(2, Int.ofNat 122)] m3 Q) ∧ ∀ P : Prop, (m3 122 12 = 0 → P)) := by
    intro c p m2 m3 v hw hc hb hf e3
    have h12 : 0 < m3 122 12 := by rw [e3, zup_j (by omega), hb.1]; exact hc
    refine ⟨fun _ => v_Mo_readWalled_83 (v_Mo_readWalled_87 (fun m4 e4 => c_Mo_stepB (d := d + 3) (by rw [e4, zup_j (by omega)]; exact h12) (hQe c p hw hc m4 (hb.fr (fun j hj => ?_)) ((hf.up e3 (by omega)).up e4 (by omega))))), fun P z => by omega⟩
    rw [e4, zup_j (by omega), e3, zup_j (by omega)]
  refine v_Mo_readWalled (c_Mo_step (d := d + 2) hB (i := tkE b L i) hle.2.2.1 u14 u12 (fun m1 ht1 hf1 => c_Mo_looks (d := d + 2) ht1 (fun c p hn m2 hb hf2 => ?_) (fun v j hn h17 h14 h12 => ?_)))
  · have hc : 0 < c := by have := (numF_l hn).1; omega
    have h12 : m2 122 12 ≠ 0 := by rw [hb.1]; omega
    have hw : wallP b L i st = .inl (c, p) := by unfold wallP; rw [hn]; rfl
    refine ⟨fun _ => ⟨fun _ m3 e3 => ?_, fun z => absurd z h12⟩, fun z => absurd z h12⟩
    have := brk c p m2 m3 _ hw hc hb (hf1.vf.trans hf2.vf) e3
    exact ⟨this.1, this.2 _⟩
  · have hv := numF_r hn
    have hI : zI st.2.2.2.2 := by have := hW.2.2.2.2.2.2.2.2; unfold zI; omega
    have w6 : m1 122 6 = st.2.2.2.2 := by rw [hf1.2 6 (by omega), d6]
    have hw : wallP b L i st = if zand (zshr st.2.2.2.2 v) 1 ≠ 0 then .inl (4, tkS b L (tkE b L i)) else .inr (j, (st.1, st.2.1, st.2.2.1, st.2.2.2.1, zor st.2.2.2.2 (zshl 1 v))) := by unfold wallP; rw [hn]; rfl
    refine ⟨fun z => absurd h12 z, fun _ x12 e12 => ⟨fun z => absurd h12 z, fun _ => ?_⟩⟩
    rw [h17] at e12
    rw [e12, w6]
    refine ⟨fun c1 m8 e8 => ?_, fun c1 => c_Mo_fails (d := d + 3) (fun m9 q1 q2 q3 q4 m10 e10 => ?_)⟩
    · have c0 : zand (zshr st.2.2.2.2 v) 1 = 0 := by
        rcases zB_test01 (d := v) hI with q | q
        · exact q
        · exact absurd q c1
      rw [if_neg (fun z => z c0)] at hw
      have k12 : m8 122 12 = 0 := by rw [e8, zup_j (by omega), h12]
      have k8 : m8 122 8 = mem 122 8 := by rw [e8, zup_j (by omega), hf1.2 8 (by omega)]
      have fin : ∀ m3 : zMem, m3 = zup m8 122 8 (mx (mem 122 8) v) → zC (d + 4) K_Mo_step [(2, Int.ofNat 122)] m3 (fun r1 m2 => Q 0 m2) := by
        intro m3 e3
        have f3 := (hf1.vf.up e8 (by omega)).up e3 (by omega)
        refine c_Mo_step (d := d + 2) (hB.vf f3) (i := j) (by rw [hv.2.2.2]; exact hle2.2.2.1) (by rw [e3, zup_j (by omega), e8, zup_j (by omega), h14]) (by rw [e3, zup_j (by omega), k12]) (fun m4 ht4 hf4 => ?_)
        have h2 : ∀ x, x < 12 → x ≠ 6 → x ≠ 8 → m4 122 x = mem 122 x := fun x hx h6 h8 => by rw [hf4.2 x (by omega), e3, zup_j h8, e8, zup_j h6, hf1.2 x (by omega)]
        have h124 : m4 124 = mem 124 := by rw [hf4.1 124 (by omega)]; funext x; rw [e3, zup_k (by omega), e8, zup_k (by omega), hf1.1 124 (by omega)]
        refine hQk j _ hw (by rw [hv.2.2.2]; exact hle2.2.2.1) ?_ m4 ht4 ⟨fun x hx => ?_, d2, ?_, ?_, ?_, ?_, ?_, ?_⟩ (f3.trans hf4.vf)
        · obtain ⟨x1, x2, x3, x4, x5, x6, x7, x8, x9⟩ := hW
          refine ⟨x1, x2, x3, x4, x5, x6, x7, x8, ?_⟩
          have := zB_small (x := zor st.2.2.2.2 (zshl 1 v)) (zor_I _ _) (n := 14) (by omega) (fun k k1 k2 q => by
            rw [(zB_put k2 (by omega) (by omega)).1] at q
            rcases q with q | q
            · exact zB_of_lt x9.1 (n := 14) (by omega) (by omega) k1 q
            · omega)
          exact ⟨this.1, by show zor st.2.2.2.2 (zshl 1 v) < 16384; omega⟩
        · rw [h124]; exact d1 x hx
        · rw [h2 3 (by omega) (by omega) (by omega)]; exact d3
        · rw [h2 4 (by omega) (by omega) (by omega)]; exact d4
        · rw [h2 5 (by omega) (by omega) (by omega)]; exact d5
        · rw [hf4.2 6 (by omega), e3, zup_j (by omega), e8, zup_e]
        · rw [h2 7 (by omega) (by omega) (by omega)]; exact d7
        · rw [hf4.2 8 (by omega), e3, zup_e]
          exact hiD_put (by omega) d8
      rw [k8]
      refine ⟨fun z => absurd k12 z, fun _ => ⟨fun c => v_Mo_readWalled_83 (v_Mo_readWalled_87 (fun m3 e3 => fin m3 ?_)), fun c => v_Mo_readWalled_87 (fun m3 e3 => fin m3 ?_)⟩⟩
      · rw [e3, k8]; unfold mx; rw [if_pos c]
      · rw [e3]; unfold mx; rw [if_neg (by omega)]
    · have hb : rBr m9 4 (tkS b L (tkE b L i)) := ⟨(q2 h12).1, by rw [(q2 h12).2, ht1.1]⟩
      rw [if_pos (by rw [c1]; decide)] at hw
      have := brk 4 _ m9 m10 _ hw (by decide) hb (hf1.vf.trans (rFr.vf ⟨q3, fun x hx => q4 x (by omega) (by omega)⟩)) e10
      exact ⟨this.1, this.2 _⟩
end
