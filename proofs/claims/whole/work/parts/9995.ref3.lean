section
/-! palace: the reference's door and line. -/
variable {d : Nat} {mem m m' m2 : zMem} {Q : Int → zMem → Prop} {b : Nat → Int} {L i j : Nat} {st st' : zPD} {g : zPg} {ws h v : Int}
theorem nm_col {s e : Nat} {r : Int} (hr : nmW b s e r) : (5 ≤ r → colF b s e = r - 4) ∧ (r < 5 → colF b s e = 0) ∧ -4 ≤ r ∧ r < 8 := by
  have no : ∀ k : Nat, k < 8 → ¬ r = (k : Int) → ¬ wd b s e k := fun k hk q w => q (nmW_k hk w hr)
  have yes : ∀ k : Nat, k < 8 → r = (k : Int) → wd b s e k := fun k hk q => by
    rcases hr with ⟨x, x1, x2, x3, -⟩ | ⟨x, -⟩
    · rw [show k = x by omega]; exact x3
    · omega
  have rg : -4 ≤ r ∧ r < 8 := by
    rcases hr with ⟨x, x1, x2, x3, -⟩ | ⟨x, -⟩ <;> omega
  unfold colF
  refine ⟨fun h => ?_, fun h => ?_, rg⟩
  · by_cases c5 : r = 5
    · rw [if_pos (yes 5 (by omega) (by omega))]; omega
    · rw [if_neg (no 5 (by omega) (by omega))]
      by_cases c6 : r = 6
      · rw [if_pos (yes 6 (by omega) (by omega))]; omega
      · rw [if_neg (no 6 (by omega) (by omega)), if_pos (yes 7 (by omega) (by omega))]; omega
  · rw [if_neg (no 5 (by omega) (by omega)), if_neg (no 6 (by omega) (by omega)), if_neg (no 7 (by omega) (by omega))]
theorem rD.door {x y c : Int} (hd : rD mem st) (hN : 0 ≤ gN st.1 ∧ gN st.1 < 14) (n : Nat) (hn : (n : Int) = gN st.1) (h0 : m' 124 (4 * n) = x) (h1 : m' 124 (4 * n + 1) = y) (h2 : m' 124 (4 * n + 2) = c) (h56 : m' 124 56 = gN st.1 + 1) (ho : ∀ z, z < 88 → z ≠ 4 * n → z ≠ 4 * n + 1 → z ≠ 4 * n + 2 → z ≠ 56 → m' 124 z = mem 124 z) (hk : ∀ z, z < 12 → z ≠ 7 → m' 122 z = mem 122 z) (h7 : m' 122 7 = mx (mx (mem 122 7) x) y) : rD m' (gAdd st.1 x y c, st.2) := by
  obtain ⟨d1, d2, d3, d4, d5, d6, d7, d8⟩ := hd
  obtain ⟨a1, a2, a3, a4⟩ := gAdd_at (g := st.1) (a := x) (b := y) (c := c) hN
  have en : (gN st.1).toNat = n := by omega
  refine ⟨fun z hz => ?_, fun k k1 k2 => ?_, ?_, ?_, ?_, ?_, ?_, ?_⟩
  · show m' 124 z = gAdd st.1 x y c z
    unfold gAdd
    rw [en]
    by_cases q0 : z = 4 * n
    · rw [if_pos q0, q0, h0]
    · rw [if_neg q0]
      by_cases q1 : z = 4 * n + 1
      · rw [if_pos q1, q1, h1]
      · rw [if_neg q1]
        by_cases q2 : z = 4 * n + 2
        · rw [if_pos q2, q2, h2]
        · rw [if_neg q2]
          by_cases q3 : z = 4 * n + 3
          · rw [if_pos q3, q3, ho _ (by omega) (by omega) (by omega) (by omega) (by omega), d1 _ (by omega)]
            exact (d2 n (by omega) (by omega)).2
          · rw [if_neg q3]
            by_cases q4 : z = 56
            · rw [if_pos q4, q4, h56]
            · rw [if_neg q4, ho z hz q0 q1 q2 q4, d1 z hz]
  · have k1 : gN (gAdd st.1 x y c) ≤ (k : Int) := k1
    have e : ∀ z, 4 * n + 4 ≤ z → z ≠ 56 → gAdd st.1 x y c z = st.1 z := fun z z1 z2 => by
      unfold gAdd
      rw [if_neg (by omega), if_neg (by omega), if_neg (by omega), if_neg (by omega), if_neg z2]
    show gAdd st.1 x y c (4 * k + 2) = 0 ∧ gAdd st.1 x y c (4 * k + 3) = 0
    rw [e _ (by omega) (by omega), e _ (by omega) (by omega)]
    exact d2 k (by omega) k2
  · rw [hk 3 (by omega) (by omega)]; exact d3
  · rw [hk 4 (by omega) (by omega)]; exact d4
  · rw [hk 5 (by omega) (by omega)]; exact d5
  · rw [hk 6 (by omega) (by omega)]; exact d6
  · rw [h7]; exact hiR_door hN d7
  · rw [hk 8 (by omega) (by omega)]; exact d8
theorem c_Mo_readDoor (hB : rB mem b L) (hi : i ≤ L) (ht : rTk mem b L i) (k2 : tkK b L i = 2) (hW : pdW st) (hd : rD mem st) (hQe : ∀ c p, doorP b L i st = .inl (c, p) → 0 < c → ∀ m' : zMem, rBr m' c p → vFr mem m' → Q 0 m') (hQk : ∀ j st', doorP b L i st = .inr (j, st') → j ≤ L → pdW st' → ∀ m' : zMem, rTk m' b L j → rD m' st' → vFr mem m' → Q 0 m') : zC (d + 5) K_Mo_readDoor [(2, Int.ofNat 122)] mem Q := by
  obtain ⟨t15, tk, tv, t0⟩ := id ht
  obtain ⟨u12, u16, u14⟩ := tk (by omega)
  obtain ⟨d1, d2, d3, d4, d5, d6, d7, d8⟩ := id hd
  have hle := tk_le (b := b) hi
  have hN := hW.1.1
  refine v_Mo_readDoor fun x1 e1 => ?_
  have ex : x1 = gN st.1 := by rw [e1, d1 56 (by omega)]; rfl
  obtain ⟨n, hn⟩ : ∃ n : Nat, (n : Int) = gN st.1 := ⟨(gN st.1).toNat, by omega⟩
  rw [ex]
  refine ⟨fun c1 => ?_, fun c1 => c_Mo_fails (d := d + 3) (fun m' q1 q2 q3 q4 => hQe 5 (tkS b L i) (by unfold doorP; rw [if_pos (by omega)]) (by decide) m' ⟨(q2 u12).1, by rw [(q2 u12).2, t15]⟩ (rFr.vf ⟨q3, fun x hx => q4 x (by omega) (by omega)⟩))⟩
  have hR : doorP b L i st = bnd (numF b L (tkE b L i) 0 9) (fun v => bnd (rmF b L v.2 v.1) (fun u => bnd (colP b L u.2) (fun c => .inr (c.2, (gAdd st.1 v.1 u.1 c.1, st.2))))) := by unfold doorP; rw [if_neg (by omega)]
  rw [zm (by omega), za (by omega), za (by omega)]
  have a0 : (4 * gN st.1).toNat = 4 * n := by omega
  have a1 : (4 * gN st.1 + 1).toNat = 4 * n + 1 := by omega
  have a2 : (4 * gN st.1 + 2).toNat = 4 * n + 2 := by omega
  rw [a0, a1, a2]
  refine c_Mo_step (d := d + 2) hB (i := tkE b L i) hle.2.2.1 u14 u12 (fun m1 ht1 hf1 => ?_)
  refine c_Mo_room (d := d) (hB.fr hf1) hle.2.2.1 ht1 (fun c p hn1 hc m2 hb hf2 => ⟨by omega, fun m3 e3 => ⟨by omega, ?_⟩⟩) (fun v j hn0 hn1 hv m2 ht2 hf2 h7 => ⟨by omega, fun m3 e3 => ⟨by omega, ?_⟩⟩)
  · rw [rmF_4] at hn1
    have h12 : m3 122 12 = c := by rw [e3, zup_k (by omega), hb.1]
    refine c_Mo_roomB (d := d + 1) (by rw [h12]; exact hc) (fun m4 q1 q2 => ⟨by omega, fun m5 e5 => ?_⟩)
    have h12' : m5 122 12 = c := by rw [e5, zup_k (by omega), q2 12 (by omega), h12]
    refine ⟨fun _ m6 e6 => hQe c p (by rw [hR, hn1]; rfl) hc m6 (hb.fr (fun x hx => ?_)) ?_, fun z => by omega⟩
    · rw [e6, zup_k (by omega), e5, zup_k (by omega), q2 x (by omega), e3, zup_k (by omega)]
    · refine ((((hf1.vf.trans hf2.vf).pg e3).trans (m' := m3) (m2 := m4) ?_).pg e5).pg e6
      exact ⟨fun k k1 k2 => q1 k k1, fun j hj => q2 j (by omega)⟩
  · have hv1 := numF_r hn1
    have hj : j ≤ L := by rw [hv1.2.2.2]; exact (tk_le hle.2.2.1).2.2.1
    have hR : doorP b L i st = bnd (rmF b L j v) (fun u => bnd (colP b L u.2) (fun c => .inr (c.2, (gAdd st.1 v u.1 c.1, st.2)))) := by rw [hR, hn1]; rfl
    have e40 : m3 124 (4 * n) = v := by rw [e3, zup_e]
    have f3 : vFr mem m3 := (hf1.vf.trans hf2.vf).pg e3
    have ht3 : rTk m3 b L j := ht2.fr (fun x _ _ => by rw [e3, zup_k (by omega)])
    rw [e40]
    refine c_Mo_room (d := d) (hB.vf f3) hj ht3 (fun c p hn2 hc m4 hb hf4 => ⟨by omega, fun m5 e5 => ⟨fun _ m6 e6 => hQe c p (by rw [hR, hn2]; rfl) hc m6 (hb.fr (fun x hx => ?_)) (((f3.trans hf4.vf).pg e5).pg e6), fun z => ?_⟩⟩) (fun u k hn2 hn2' hu m4 ht4 hf4 h7' => ⟨by omega, fun m5 e5 => ?_⟩)
    · rw [e6, zup_k (by omega), e5, zup_k (by omega)]
    · rw [e5, zup_k (by omega), hb.1] at z; omega
    · have hu1 := numF_r hn2'
      have hlj := tk_le (b := b) hj
      have hk : k ≤ L := by rw [hu1.2.2.2]; exact hlj.2.2.1
      have hlk := tk_le (b := b) hk
      have hR : doorP b L i st = bnd (colP b L k) (fun c => .inr (c.2, (gAdd st.1 v u c.1, st.2))) := by rw [hR, hn2]; rfl
      have ht5 : rTk m5 b L k := ht4.fr (fun x _ _ => by rw [e5, zup_k (by omega)])
      have f5 : vFr mem m5 := (f3.trans hf4.vf).pg e5
      obtain ⟨w15, wk, wv, w0⟩ := id ht5
      have p5 : ∀ z, z < 88 → z ≠ 4 * n → z ≠ 4 * n + 1 → m5 124 z = mem 124 z := fun z z0 z1 z2 => by rw [e5, zup_j z2, hf4.1 124 (by omega), e3, zup_j z1, hf2.1 124 (by omega), hf1.1 124 (by omega)]
      have p50 : m5 124 (4 * n) = v := by rw [e5, zup_j (by omega), hf4.1 124 (by omega), e40]
      have p51 : m5 124 (4 * n + 1) = u := by rw [e5, zup_e]
      have p56 : m5 124 56 = gN st.1 := by rw [p5 56 (by omega) (by omega) (by omega), d1 56 (by omega)]; rfl
      have p52 : m5 124 (4 * n + 2) = 0 := by rw [p5 _ (by omega) (by omega) (by omega), d1 _ (by omega)]; exact (d2 n (by omega) (by omega)).1
      have k5 : ∀ z, z < 12 → z ≠ 7 → m5 122 z = mem 122 z := fun z z1 z2 => by rw [e5, zup_k (by omega), hf4.2 z z2 (by omega), e3, zup_k (by omega), hf2.2 z z2 (by omega), hf1.2 z (by omega)]
      have k7 : m5 122 7 = mx (mx (mem 122 7) v) u := by rw [e5, zup_k (by omega), h7', e3, zup_k (by omega), h7, hf1.2 7 (by omega)]
      -- no colour
      have plain : tkK b L k ≠ 2 → ∀ m7 : zMem, m7 = zup m5 124 56 (zadd (m5 124 56) 1) → Q 0 m7 := by
        intro hK m7 e7
        rw [p56, za (by omega)] at e7
        have hc : colP b L k = .inr (0, k) := by unfold colP; rw [if_neg hK]
        refine hQk k _ (by rw [hR, hc]; rfl) hk (hW.door (by omega) (by omega) (by omega) (fun z => hu z.symm) (by omega)) m7 (ht5.fr (fun x _ _ => by rw [e7, zup_k (by omega)])) (hd.door (by omega) n hn ?_ ?_ ?_ ?_ (fun z z0 z1 z2 z3 z4 => ?_) (fun z z1 z2 => ?_) ?_) (f5.pg e7)
        · rw [e7, zup_j (by omega), p50]
        · rw [e7, zup_j (by omega), p51]
        · rw [e7, zup_j (by omega), p52]
        · rw [e7, zup_e]
        · rw [e7, zup_j z4, p5 z z0 z1 z2]
        · rw [e7, zup_k (by omega), k5 z z1 z2]
        · rw [e7, zup_k (by omega), k7]
      refine ⟨fun z => plain ?_, fun z => ⟨fun z1 => plain ?_, fun z1 => ?_⟩⟩
      · intro q
        exact z (wk (by omega)).1
      · intro q
        have := (wk (by omega)).2.1
        omega
      · have hK0 : tkK b L k ≠ 0 := fun q => by have := (w0 q).1; omega
        obtain ⟨y12, y16, y14⟩ := wk hK0
        have hK : tkK b L k = 2 := by omega
        refine c_Mo_nameHere (d := d + 2) (hB.vf f5) ⟨hlk.2.1, hlk.2.2.1⟩ w15 (fun _ => y14) (fun _ r hr x6 e6 => ?_) (fun q => absurd z1 q)
        obtain ⟨col1, col0, rg⟩ := nm_col hr
        rw [zs (by omega)] at e6
        refine ⟨fun c3 => ⟨by omega, fun m9 e9 => ?_⟩, fun c3 => c_Mo_fails (d := d + 3) (fun m12 q1 q2 q3 q4 => ⟨by omega, fun m13 e13 => ?_⟩)⟩
        · have ec := col1 (by omega)
          have hc : colP b L k = .inr (r - 4, tkE b L k) := by unfold colP; rw [if_pos hK, ec, if_neg (by omega)]
          rw [za (by omega), show x6 + 1 = r - 4 by omega] at e9
          refine c_Mo_step (d := d + 2) (hB.vf (f5.pg e9)) (i := tkE b L k) hlk.2.2.1 (by rw [e9, zup_k (by omega), y14]) (by rw [e9, zup_k (by omega), y12]) (fun m10 ht10 hf10 m11 e11 => ?_)
          have p10 : m10 124 56 = gN st.1 := by rw [hf10.1 124 (by omega), e9, zup_j (by omega), p56]
          rw [p10, za (by omega)] at e11
          refine hQk (tkE b L k) _ (by rw [hR, hc]; rfl) hlk.2.2.1 (hW.door (by omega) (by omega) (by omega) (fun z => hu z.symm) (by omega)) m11 (ht10.fr (fun x _ _ => by rw [e11, zup_k (by omega)])) (hd.door (by omega) n hn ?_ ?_ ?_ ?_ (fun z z0 z1 z2 z3 z4 => ?_) (fun z z1 z2 => ?_) ?_) (((f5.pg e9).trans hf10.vf).pg e11)
          · rw [e11, zup_j (by omega), hf10.1 124 (by omega), e9, zup_j (by omega), p50]
          · rw [e11, zup_j (by omega), hf10.1 124 (by omega), e9, zup_j (by omega), p51]
          · rw [e11, zup_j (by omega), hf10.1 124 (by omega), e9, zup_e]
          · rw [e11, zup_e]
          · rw [e11, zup_j z4, hf10.1 124 (by omega), e9, zup_j z3, p5 z z0 z1 z2]
          · rw [e11, zup_k (by omega), hf10.2 z (by omega), e9, zup_k (by omega), k5 z z1 z2]
          · rw [e11, zup_k (by omega), hf10.2 7 (by omega), e9, zup_k (by omega), k7]
        · have ec := col0 (by omega)
          have hc : colP b L k = .inl (2, tkS b L k) := by unfold colP; rw [if_pos hK, ec, if_pos rfl]
          have hb : rBr m12 2 (tkS b L k) := ⟨(q2 y12).1, by rw [(q2 y12).2, w15]⟩
          have hf12 : rFr m5 m12 := ⟨q3, fun x hx => q4 x (by omega) (by omega)⟩
          refine c_Mo_stepB (d := d + 3) (by rw [e13, zup_k (by omega), hb.1]; decide) (fun m15 e15 => hQe 2 _ (by rw [hR, hc]; rfl) (by decide) m15 (hb.fr (fun x hx => ?_)) (((f5.trans hf12.vf).pg e13).pg e15))
          rw [e15, zup_k (by omega), e13, zup_k (by omega)]
end
