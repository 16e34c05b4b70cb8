section
/-! palace: the reference's tokens. -/
variable {d w : Nat} {mem m m' m2 : zMem} {Q : Int → zMem → Prop} {b : Nat → Int} {L i : Nat} {lo hi : Int}
def rB (mem : zMem) (b : Nat → Int) (L : Nat) : Prop := mem 122 10 = L ∧ L ≤ 320 ∧ (∀ i, i < L → mem 125 i = b i ∧ 0 ≤ b i ∧ b i < 256) ∧ (∀ i, i < 9 → mem 126 i = zm0 126 i) ∧ ∀ i, i < 33 → mem 127 i = zm0 127 i
def rFr (mem m' : zMem) : Prop := (∀ k, k ≠ 122 → m' k = mem k) ∧ ∀ j, j < 12 ∨ 17 < j → m' 122 j = mem 122 j
theorem rFr.refl : rFr mem mem := ⟨fun _ _ => rfl, fun _ _ => rfl⟩
theorem rFr.trans (h : rFr mem m') (h' : rFr m' m2) : rFr mem m2 := ⟨fun k k1 => by rw [h'.1 k k1, h.1 k k1], fun j hj => by rw [h'.2 j hj, h.2 j hj]⟩
theorem rFr.up {m1 : zMem} (h : rFr mem m) {j : Nat} {v : Int} (e : m1 = zup m 122 j v) (hj : 12 ≤ j ∧ j ≤ 17) : rFr mem m1 := ⟨fun k hk => by funext x; rw [e, zup_k hk, h.1 k hk], fun x hx => by rw [e, zup_j (by omega), h.2 x hx]⟩
theorem rB.fr (h : rB mem b L) (hf : rFr mem m') : rB m' b L := by
  unfold rB at h ⊢
  rw [hf.2 10 (by omega), hf.1 125 (by omega), hf.1 126 (by omega), hf.1 127 (by omega)]
  exact h
theorem c_Mo_byteAt (hB : rB mem b L) {k : Nat} (hQ1 : k < L → Q (b k) mem) (hQ0 : L ≤ k → Q (-4) mem) : zC (d + 1) K_Mo_byteAt [(2, Int.ofNat 122), (0, (k : Int))] mem Q := by
  obtain ⟨b1, b2, b3, -⟩ := hB
  refine v_Mo_byteAt ?_
  rw [b1, Int.toNat_natCast]
  refine ⟨fun c => hQ0 (by omega), fun c => ⟨by omega, ?_⟩⟩
  rw [(b3 k (by omega)).1]
  exact hQ1 (by omega)
theorem c_Mo_fails {c : Int} (hQ : ∀ m' : zMem, (mem 122 12 ≠ 0 → m' 122 12 = mem 122 12 ∧ m' 122 13 = mem 122 13) → (mem 122 12 = 0 → m' 122 12 = c ∧ m' 122 13 = mem 122 15) → (∀ k, k ≠ 122 → m' k = mem k) → (∀ j, j ≠ 12 → j ≠ 13 → m' 122 j = mem 122 j) → Q 0 m') : zC (d + 1) K_Mo_fails [(2, Int.ofNat 122), (0, c)] mem Q := by
  refine v_Mo_fails ⟨fun q => hQ mem (fun _ => ⟨rfl, rfl⟩) (fun z => absurd z q) (fun _ _ => rfl) (fun _ _ _ => rfl), fun q m1 e1 m2 e2 => hQ m2 (fun z => absurd q z) (fun _ => ⟨?_, ?_⟩) (fun k hk => ?_) (fun j j1 j2 => ?_)⟩
  · rw [e2, zup_j (by omega), e1, zup_e]
  · rw [e2, zup_e, e1, zup_j (by omega)]
  · funext j; rw [e2, zup_k hk, e1, zup_k hk]
  · rw [e2, zup_j j2, e1, zup_j j1]
/-- a token is before the reference -/
def rTk (m : zMem) (b : Nat → Int) (L i : Nat) : Prop := m 122 15 = tkS b L i ∧ (tkK b L i ≠ 0 → m 122 12 = 0 ∧ m 122 16 = (tkK b L i : Int) - 1 ∧ m 122 14 = tkE b L i) ∧ (tkK b L i = 3 → m 122 17 = tkV b L i) ∧ (tkK b L i = 0 → m 122 12 = 1 ∧ m 122 13 = tkS b L i)
theorem c_Mo_step (hB : rB mem b L) (hi : i ≤ L) (h14 : mem 122 14 = i) (h12 : mem 122 12 = 0) (hQ : ∀ m' : zMem, rTk m' b L i → rFr mem m' → Q 0 m') : zC (d + 2) K_Mo_step [(2, Int.ofNat 122)] mem Q := by
  have hle := tk_le (b := b) hi
  have hL := hB.2.1
  have hSs : tkS b L i = scan b L 32 32 i := rfl
  -- behind the spaces
  have body : ∀ (m : zMem), m 122 14 = tkS b L i → m 122 12 = 0 → rFr mem m → zG (d + 2) M_Mo_step 8 [(2, Int.ofNat 122), (9, 0)] [] m Q := by
    intro m h14 h12 hf
    generalize hs : tkS b L i = s at *
    have hBm := hB.fr hf
    have hn32 : s < L → b s ≠ 32 := by
      intro h q
      have h2 := scan_at (b := b) (L := L) (lo := 32) (hi := 32) (i := s) h (by omega)
      have e : ∀ (n j : Nat), j + n = L → scan b L 32 32 (scan b L 32 32 j) = scan b L 32 32 j := by
        intro n
        induction n with
        | zero => intro j hj; rw [scan_e (i := j) (by omega), scan_e (by omega)]
        | succ n ih =>
          intro j hj
          by_cases z : 32 ≤ b j ∧ b j ≤ 32
          · rw [scan_y (i := j) (by omega) z]; exact ih (j + 1) (by omega)
          · rw [scan_n (i := j) (by omega) z, scan_n (by omega) z]
      have := e (L - i) i (by omega)
      rw [← hSs] at this
      omega
    -- r: the byte here
    have main : ∀ r : Int, (s < L → r = b s) → (L ≤ s → r = -4) → ∀ m2 : zMem, m2 = zup m 122 15 (m 122 14) → zC (d + 1) K_Mo_byteAt [(2, Int.ofNat 122), (0, m2 122 14)] m2 (fun r2 m3 => ∀ m4 : zMem, m4 = zup m3 122 17 0 → ((r2 ≠ -4 → zC (d + 1) K_Mo_in [(1, r2), (1, 97), (1, 122)] m4 (fun r3 m5 => ((r3 = 0 → zC (d + 1) K_Mo_in [(1, r2), (1, 48), (1, 57)] m5 (fun r4 m6 => ((r4 = 0 → ∀ m7 : zMem, m7 = zup m6 122 16 3 → ∀ m8 : zMem, m8 = zup m7 122 14 (zadd (m7 122 14) 1) → ((r2 = 59 → Q 0 m8) ∧ (r2 ≠ 59 → zC (d + 1) K_Mo_fails [(2, Int.ofNat 122), (0, 1)] m8 (fun r5 m9 => Q 0 m9)))) ∧ (r4 ≠ 0 → zG (d + 2) M_Mo_step 140 [(2, Int.ofNat 122), (9, 0)] [] m6 Q)))) ∧ (r3 ≠ 0 → zG (d + 2) M_Mo_step 84 [(2, Int.ofNat 122), (9, 0)] [] m5 Q)))) ∧ (r2 = -4 → ∀ m10 : zMem, m10 = zup m4 122 16 0 → Q 0 m10))) := by
      intro r _ _ m2 e2
      have k14 : m2 122 14 = s := by rw [e2, zup_j (by omega), h14]
      have f2 : rFr mem m2 := hf.up e2 (by omega)
      have k15 : m2 122 15 = s := by rw [e2, zup_e, h14]
      have k12 : m2 122 12 = 0 := by rw [e2, zup_j (by omega), h12]
      rw [k14]
      refine c_Mo_byteAt (d := d) (hB.fr f2) (fun hl m4 e4 => ?_) (fun hl m4 e4 => ⟨fun q => absurd rfl q, fun _ m10 e10 => hQ m10 ?_ ((f2.up e4 (by omega)).up e10 (by omega))⟩)
      · have hbs := hB.2.2.1 s hl
        have f4 : rFr mem m4 := f2.up e4 (by omega)
        have q14 : m4 122 14 = s := by rw [e4, zup_j (by omega), k14]
        have q15 : m4 122 15 = s := by rw [e4, zup_j (by omega), k15]
        have q12 : m4 122 12 = 0 := by rw [e4, zup_j (by omega), k12]
        have q17 : m4 122 17 = 0 := by rw [e4, zup_e]
        have hnL : ¬ L ≤ s := by omega
        refine ⟨fun _ => c_Mo_in (d := d) (fun c1 => ⟨fun q => absurd q (by decide), fun _ => ?_⟩) (fun c1 => ⟨fun _ => c_Mo_in (d := d) (fun c2 => ⟨fun q => absurd q (by decide), fun _ => ?_⟩) (fun c2 => ⟨fun _ m7 e7 m8 e8 => ?_, fun q => absurd rfl q⟩), fun q => absurd rfl q⟩), fun q => by omega⟩
        · -- a name
          have hE : tkE b L i = scan b L 97 122 s := by unfold tkE; rw [hs, if_neg hnL, if_pos c1]
          have hK : tkK b L i = 2 := by unfold tkK; rw [hs, if_neg hnL, if_pos c1]
          have loop : ∀ (n j : Nat) (m5 : zMem), j + n = L → scan b L 97 122 j = scan b L 97 122 s → m5 122 14 = j → m5 122 15 = s → m5 122 12 = 0 → rFr mem m5 → zG (d + 2) M_Mo_step 84 [(2, Int.ofNat 122), (9, 0)] [] m5 Q := by
            intro n
            have stop : ∀ (j : Nat) (m5 : zMem), tkE b L i = j → m5 122 14 = j → m5 122 15 = s → m5 122 12 = 0 → rFr mem m5 → ∀ m3 : zMem, m3 = zup m5 122 16 1 → Q 0 m3 := by
              intro j m5 hj h1 h2 h3 hf5 m3 e3
              refine hQ m3 ⟨?_, fun _ => ⟨?_, ?_, ?_⟩, fun z => by omega, fun z => by omega⟩ (hf5.up e3 (by omega))
              · rw [e3, zup_j (by omega), h2, hs]
              · rw [e3, zup_j (by omega), h3]
              · rw [e3, zup_e, hK]; rfl
              · rw [e3, zup_j (by omega), h1, hj]
            induction n with
            | zero =>
              intro j m5 hj he h1 h2 h3 hf5
              refine v_Mo_step_84 ?_
              rw [h1]
              refine c_Mo_byteAt (d := d) (hB.fr hf5) (fun z => by omega) (fun _ => c_Mo_in (d := d) (fun z => by omega) (fun _ => ⟨fun _ => stop j m5 ?_ h1 h2 h3 hf5, fun q => absurd rfl q⟩))
              rw [hE, ← he, scan_e (by omega)]
            | succ n ih =>
              intro j m5 hj he h1 h2 h3 hf5
              refine v_Mo_step_84 ?_
              rw [h1]
              refine c_Mo_byteAt (d := d) (hB.fr hf5) (fun z => ?_) (fun z => by omega)
              refine c_Mo_in (d := d) (fun y => ⟨fun q => absurd q (by decide), fun _ m6 e6 => ?_⟩) (fun y => ⟨fun _ => stop j m5 (by rw [hE, ← he, scan_n z y]) h1 h2 h3 hf5, fun q => absurd rfl q⟩)
              rw [h1, za (by omega)] at e6
              refine ih (j + 1) m6 (by omega) (by rw [← he, scan_y z y]) (by rw [e6, zup_e]; omega) (by rw [e6, zup_j (by omega), h2]) (by rw [e6, zup_j (by omega), h3]) (hf5.up e6 (by omega))
          exact loop (L - s) s m4 (by omega) rfl q14 q15 q12 f4
        · -- a number
          have hE : tkE b L i = scan b L 48 57 s := by unfold tkE; rw [hs, if_neg hnL, if_neg c1, if_pos c2]
          have hK : tkK b L i = if 2 < tkE b L i - s then 0 else 3 := by rw [hE]; unfold tkK; rw [hs, if_neg hnL, if_neg c1, if_pos c2]
          have hV : tkV b L i = if tkE b L i - s = 1 then b s - 48 else 10 * (b s - 48) + (b (s + 1) - 48) := by unfold tkV; rw [hs]
          have hs1 : s < tkE b L i := by rw [hE]; exact scan_at hl c2
          have loop : ∀ (n j : Nat) (m5 : zMem), j + n = L → s ≤ j → scan b L 48 57 j = scan b L 48 57 s → m5 122 14 = j → m5 122 15 = s → m5 122 12 = 0 → (j = s → m5 122 17 = 0) → (j = s + 1 → m5 122 17 = b s - 48) → (s + 2 ≤ j → m5 122 17 = 10 * (b s - 48) + (b (s + 1) - 48)) → rFr mem m5 → zG (d + 2) M_Mo_step 140 [(2, Int.ofNat 122), (9, 0)] [] m5 Q := by
            intro n
            have stop : ∀ (j : Nat) (m5 : zMem), tkE b L i = j → s ≤ j → m5 122 14 = j → m5 122 15 = s → m5 122 12 = 0 → (j = s + 1 → m5 122 17 = b s - 48) → (s + 2 ≤ j → m5 122 17 = 10 * (b s - 48) + (b (s + 1) - 48)) → rFr mem m5 → ∀ m3 : zMem, m3 = zup m5 122 16 2 → ((zsub (m3 122 14) (m3 122 15) ≤ 2 → Q 0 m3) ∧ (2 < zsub (m3 122 14) (m3 122 15) → zC (d + 1) K_Mo_fails [(2, Int.ofNat 122), (0, 1)] m3 (fun r3 m4 => Q 0 m4))) := by
              intro j m5 hj hsj h1 h2 h3 v1 v2 hf5 m3 e3
              have y14 : m3 122 14 = j := by rw [e3, zup_j (by omega), h1]
              have y15 : m3 122 15 = s := by rw [e3, zup_j (by omega), h2]
              have y12 : m3 122 12 = 0 := by rw [e3, zup_j (by omega), h3]
              have y17 : m3 122 17 = m5 122 17 := by rw [e3, zup_j (by omega)]
              have f5 := hf5.up e3 (by omega)
              rw [y14, y15, zs (by omega)]
              refine ⟨fun z => hQ m3 ⟨?_, fun _ => ⟨y12, ?_, ?_⟩, fun _ => ?_, fun y => ?_⟩ f5, fun z => c_Mo_fails (d := d) (fun m' w1 w2 w3 w4 => hQ m' ⟨?_, fun y => ?_, fun y => ?_, fun _ => ?_⟩ ⟨fun k hk => by rw [w3 k hk, f5.1 k hk], fun x hx => by rw [w4 x (by omega) (by omega), f5.2 x hx]⟩)⟩
              · rw [y15, hs]
              · rw [e3, zup_e, hK, if_neg (by omega)]; rfl
              · rw [y14, hj]
              · rw [y17, hV]
                by_cases e : tkE b L i - s = 1
                · rw [if_pos e, v1 (by omega)]
                · rw [if_neg e, v2 (by omega)]
              · rw [hK, if_neg (by omega)] at y; omega
              · rw [w4 15 (by omega) (by omega), y15, hs]
              · rw [hK, if_pos (by omega)] at y; exact absurd rfl y
              · rw [hK, if_pos (by omega)] at y; omega
              · rw [(w2 y12).1, (w2 y12).2, y15, hs]; exact ⟨rfl, rfl⟩
            induction n with
            | zero =>
              intro j m5 hj hsj he h1 h2 h3 v0 v1 v2 hf5
              refine v_Mo_step_140 ?_
              rw [h1]
              refine c_Mo_byteAt (d := d) (hB.fr hf5) (fun z => by omega) (fun _ => c_Mo_in (d := d) (fun z => by omega) (fun _ => ⟨fun _ => stop j m5 ?_ hsj h1 h2 h3 v1 v2 hf5, fun q => absurd rfl q⟩))
              rw [hE, ← he, scan_e (by omega)]
            | succ n ih =>
              intro j m5 hj hsj he h1 h2 h3 v0 v1 v2 hf5
              refine v_Mo_step_140 ?_
              rw [h1]
              refine c_Mo_byteAt (d := d) (hB.fr hf5) (fun z => ?_) (fun z => by omega)
              refine c_Mo_in (d := d) (fun y => ⟨fun q => absurd q (by decide), fun _ => ?_⟩) (fun y => ⟨fun _ => stop j m5 (by rw [hE, ← he, scan_n z y]) hsj h1 h2 h3 v1 v2 hf5, fun q => absurd rfl q⟩)
              rw [h1, h2, zs (by omega)]
              refine ⟨fun y2 m6 e6 m7 e7 => ?_, fun y2 => c_Mo_byteAt (d := d) (hB.fr hf5) (fun _ m8 e8 m9 e9 => ?_) (fun z => by omega)⟩
              · have x14 : m6 122 14 = j := by rw [e6, zup_j (by omega), h1]
                rw [x14, za (by omega)] at e7
                refine ih (j + 1) m7 (by omega) (by omega) (by rw [← he, scan_y z y]) (by rw [e7, zup_e]; omega) (by rw [e7, zup_j (by omega), e6, zup_j (by omega), h2]) (by rw [e7, zup_j (by omega), e6, zup_j (by omega), h3]) (fun q => by omega) (fun q => by omega) (fun q => by rw [e7, zup_j (by omega), e6, zup_e, v2 (by omega)]) ((hf5.up e6 (by omega)).up e7 (by omega))
              · have x14 : m8 122 14 = j := by rw [e8, zup_j (by omega), h1]
                rw [x14, za (by omega)] at e9
                have x17 : m9 122 17 = zsub (zadd (zmul 10 (m5 122 17)) (b j)) 48 := by rw [e9, zup_j (by omega), e8, zup_e]
                refine ih (j + 1) m9 (by omega) (by omega) (by rw [← he, scan_y z y]) (by rw [e9, zup_e]; omega) (by rw [e9, zup_j (by omega), e8, zup_j (by omega), h2]) (by rw [e9, zup_j (by omega), e8, zup_j (by omega), h3]) (fun q => by omega) (fun q => ?_) (fun q => ?_) ((hf5.up e8 (by omega)).up e9 (by omega))
                · have ej : j = s := by omega
                  rw [x17, v0 ej, zm (by omega), za (by omega), zs (by omega), ej]; omega
                · have ej : j = s + 1 := by omega
                  rw [ej] at y
                  rw [x17, v1 ej, ej, zm (by omega), za (by omega), zs (by omega)]; omega
          exact loop (L - s) s m4 (by omega) (by omega) rfl q14 q15 q12 (fun _ => q17) (fun z => by omega) (fun z => by omega) f4
        · -- a sign, or none
          have x14 : m7 122 14 = s := by rw [e7, zup_j (by omega), q14]
          rw [x14, za (by omega)] at e8
          have f8 := (f4.up e7 (by omega)).up e8 (by omega)
          have hE : tkE b L i = s + 1 := by unfold tkE; rw [hs, if_neg hnL, if_neg c1, if_neg c2]
          have hK : tkK b L i = if b s = 59 then 4 else 0 := by unfold tkK; rw [hs, if_neg hnL, if_neg c1, if_neg c2]
          have y15 : m8 122 15 = s := by rw [e8, zup_j (by omega), e7, zup_j (by omega), q15]
          have y12 : m8 122 12 = 0 := by rw [e8, zup_j (by omega), e7, zup_j (by omega), q12]
          refine ⟨fun z => hQ m8 ⟨?_, fun _ => ⟨y12, ?_, ?_⟩, fun y => ?_, fun y => ?_⟩ f8, fun z => c_Mo_fails (d := d) (fun m' w1 w2 w3 w4 => hQ m' ⟨?_, fun y => ?_, fun y => ?_, fun _ => ?_⟩ ⟨fun k hk => by rw [w3 k hk, f8.1 k hk], fun x hx => by rw [w4 x (by omega) (by omega), f8.2 x hx]⟩)⟩
          · rw [y15, hs]
          · rw [e8, zup_j (by omega), e7, zup_e, hK, if_pos z]; rfl
          · rw [e8, zup_e, hE]; omega
          · rw [hK, if_pos z] at y; omega
          · rw [hK, if_pos z] at y; omega
          · rw [w4 15 (by omega) (by omega), y15, hs]
          · rw [hK, if_neg z] at y; exact absurd rfl y
          · rw [hK, if_neg z] at y; omega
          · rw [(w2 y12).1, (w2 y12).2, y15, hs]; exact ⟨rfl, rfl⟩
      · have hK : tkK b L i = 1 := by unfold tkK; rw [hs, if_pos hl]
        have hE : tkE b L i = s := by unfold tkE; rw [hs, if_pos hl]
        refine ⟨?_, fun _ => ⟨?_, ?_, ?_⟩, fun z => by omega, fun z => by omega⟩
        · rw [e10, zup_j (by omega), e4, zup_j (by omega), k15, hs]
        · rw [e10, zup_j (by omega), e4, zup_j (by omega), k12]
        · rw [e10, zup_e, hK]; rfl
        · rw [e10, zup_j (by omega), e4, zup_j (by omega), k14, hE]
    refine v_Mo_step_8 ?_
    rw [h14]
    refine c_Mo_byteAt (d := d) hBm (fun hl => ⟨fun _ m2 e2 => ?_, fun q => absurd q (hn32 hl)⟩) (fun hl => ⟨fun _ m2 e2 => ?_, fun q => absurd q (by decide)⟩)
    · exact main (b s) (fun _ => rfl) (fun z => by omega) m2 e2
    · exact main (-4) (fun z => by omega) (fun _ => rfl) m2 e2
  have skip : ∀ (n j : Nat) (m : zMem), j + n = L → scan b L 32 32 j = tkS b L i → m 122 14 = j → m 122 12 = 0 → rFr mem m → zG (d + 2) M_Mo_step 8 [(2, Int.ofNat 122), (9, 0)] [] m Q := by
    intro n
    induction n with
    | zero =>
      intro j m hj he h1 h2 hf
      rw [scan_e (by omega)] at he
      exact body m (by rw [h1, he]) h2 hf
    | succ n ih =>
      intro j m hj he h1 h2 hf
      by_cases q : 32 ≤ b j ∧ b j ≤ 32
      · refine v_Mo_step_8 ?_
        rw [h1]
        refine c_Mo_byteAt (d := d) (hB.fr hf) (fun _ => ⟨fun z => absurd (by omega) z, fun _ m11 e11 => ?_⟩) (fun z => by omega)
        rw [h1, za (by omega)] at e11
        exact ih (j + 1) m11 (by omega) (by rw [← he, scan_y (by omega) q]) (by rw [e11, zup_e]; omega) (by rw [e11, zup_j (by omega), h2]) (hf.up e11 (by omega))
      · rw [scan_n (by omega) q] at he
        exact body m (by rw [h1, he]) h2 hf
  refine v_Mo_step ?_
  rw [h12]
  exact ⟨fun _ => skip (L - i) i mem (by omega) rfl h14 h12 rFr.refl, fun q => absurd q (by decide)⟩
end
