section
/-! palace: tokens. -/
variable {d w : Nat} {mem m m' m2 : zMem} {Q : Int → zMem → Prop} {b : Nat → Int} {L i : Nat} {lo hi : Int}
def scn (b : Nat → Int) (lo hi : Int) : Nat → Nat → Nat
  | 0, i => i
  | n + 1, i => if lo ≤ b i ∧ b i ≤ hi then scn b lo hi n (i + 1) else i
def scan (b : Nat → Int) (L : Nat) (lo hi : Int) (i : Nat) : Nat := scn b lo hi (L - i) i
theorem scan_y (h : i < L) (hb : lo ≤ b i ∧ b i ≤ hi) : scan b L lo hi i = scan b L lo hi (i + 1) := by
  unfold scan
  rw [show L - i = (L - (i + 1)) + 1 by omega]
  exact if_pos hb
theorem scan_n (h : i < L) (hb : ¬ (lo ≤ b i ∧ b i ≤ hi)) : scan b L lo hi i = i := by
  unfold scan
  rw [show L - i = (L - (i + 1)) + 1 by omega]
  exact if_neg hb
theorem scan_e (h : L ≤ i) : scan b L lo hi i = i := by
  unfold scan
  rw [show L - i = 0 by omega]
  rfl
theorem scan_b : ∀ (n i : Nat), i + n = L → i ≤ scan b L lo hi i ∧ scan b L lo hi i ≤ L := by
  intro n
  induction n with
  | zero => intro i h; rw [scan_e (by omega)]; omega
  | succ n ih =>
    intro i h
    by_cases q : lo ≤ b i ∧ b i ≤ hi
    · rw [scan_y (by omega) q]
      have := ih (i + 1) (by omega)
      omega
    · rw [scan_n (by omega) q]; omega
theorem scan_le (h : i ≤ L) : i ≤ scan b L lo hi i ∧ scan b L lo hi i ≤ L := scan_b (L - i) i (by omega)
theorem scan_in : ∀ (n i : Nat), i + n = L → ∀ j, i ≤ j → j < scan b L lo hi i → lo ≤ b j ∧ b j ≤ hi := by
  intro n
  induction n with
  | zero => intro i h j h1 h2; rw [scan_e (by omega)] at h2; omega
  | succ n ih =>
    intro i h j h1 h2
    by_cases q : lo ≤ b i ∧ b i ≤ hi
    · rw [scan_y (by omega) q] at h2
      by_cases e : j = i
      · rw [e]; exact q
      · exact ih (i + 1) (by omega) j (by omega) h2
    · rw [scan_n (by omega) q] at h2; omega
theorem scan_at (h : i < L) (hb : lo ≤ b i ∧ b i ≤ hi) : i < scan b L lo hi i := by
  rw [scan_y h hb]
  have := scan_le (b := b) (lo := lo) (hi := hi) (i := i + 1) (L := L) (by omega)
  omega
/-- the next token: 0 none, 1 over, 2 name, 3 number, 4 sign -/
def tkS (b : Nat → Int) (L i : Nat) : Nat := scan b L 32 32 i
def tkK (b : Nat → Int) (L i : Nat) : Nat :=
  if L ≤ tkS b L i then 1 else if 97 ≤ b (tkS b L i) ∧ b (tkS b L i) ≤ 122 then 2
  else if 48 ≤ b (tkS b L i) ∧ b (tkS b L i) ≤ 57 then (if 2 < scan b L 48 57 (tkS b L i) - tkS b L i then 0 else 3)
  else if b (tkS b L i) = 59 then 4 else 0
def tkE (b : Nat → Int) (L i : Nat) : Nat :=
  if L ≤ tkS b L i then tkS b L i else if 97 ≤ b (tkS b L i) ∧ b (tkS b L i) ≤ 122 then scan b L 97 122 (tkS b L i)
  else if 48 ≤ b (tkS b L i) ∧ b (tkS b L i) ≤ 57 then scan b L 48 57 (tkS b L i) else tkS b L i + 1
def tkV (b : Nat → Int) (L i : Nat) : Int := if tkE b L i - tkS b L i = 1 then b (tkS b L i) - 48 else 10 * (b (tkS b L i) - 48) + (b (tkS b L i + 1) - 48)
theorem tk_le (h : i ≤ L) : i ≤ tkS b L i ∧ tkS b L i ≤ tkE b L i ∧ tkE b L i ≤ L ∧ (tkK b L i ≠ 1 → tkS b L i < tkE b L i ∧ tkS b L i < L) ∧ (tkK b L i = 1 ↔ tkS b L i = L) := by
  have h1 := scan_le (b := b) (lo := 32) (hi := 32) h
  have hs : tkS b L i = scan b L 32 32 i := rfl
  unfold tkE tkK
  by_cases c1 : L ≤ tkS b L i
  · rw [if_pos c1, if_pos c1]; omega
  · rw [if_neg c1, if_neg c1]
    by_cases c2 : 97 ≤ b (tkS b L i) ∧ b (tkS b L i) ≤ 122
    · rw [if_pos c2, if_pos c2]
      have h2 := scan_le (b := b) (lo := 97) (hi := 122) (i := tkS b L i) (L := L) (by omega)
      have h3 := scan_at (i := tkS b L i) (L := L) (by omega) c2
      omega
    · rw [if_neg c2, if_neg c2]
      by_cases c3 : 48 ≤ b (tkS b L i) ∧ b (tkS b L i) ≤ 57
      · rw [if_pos c3, if_pos c3]
        have h2 := scan_le (b := b) (lo := 48) (hi := 57) (i := tkS b L i) (L := L) (by omega)
        have h3 := scan_at (i := tkS b L i) (L := L) (by omega) c3
        split <;> omega
      · rw [if_neg c3, if_neg c3]
        split <;> omega
/-! The class's tokens. -/
def cB (mem : zMem) (b : Nat → Int) (L : Nat) : Prop := mem 53 2 = L ∧ L ≤ 320 ∧ ∀ i, i < L → (-128 ≤ mem 54 i ∧ mem 54 i < 128) ∧ b i = mem 54 i % 256
def cFr (mem m' : zMem) : Prop := (∀ k, k ≠ 53 → m' k = mem k) ∧ ∀ j, j < 4 ∨ 9 < j → m' 53 j = mem 53 j
theorem cFr.refl : cFr mem mem := ⟨fun _ _ => rfl, fun _ _ => rfl⟩
theorem cFr.trans (h : cFr mem m') (h' : cFr m' m2) : cFr mem m2 := ⟨fun k k1 => by rw [h'.1 k k1, h.1 k k1], fun j hj => by rw [h'.2 j hj, h.2 j hj]⟩
theorem cB.fr (h : cB mem b L) (hf : cFr mem m') : cB m' b L := by
  unfold cB at h ⊢
  rw [hf.2 2 (by omega), hf.1 54 (by omega)]
  exact h
theorem c_Ta_behind (hB : cB mem b L) (hiL : i ≤ L) (h6 : mem 53 6 = i) (hlo : 0 ≤ lo ∧ hi ≤ 127) (hQ : Q (scan b L lo hi i : Int) mem) : zC (d + 1) K_Ta_behind [(2, Int.ofNat 53), (0, lo), (0, hi)] mem Q := by
  obtain ⟨b1, b2, b3⟩ := hB
  have loop : ∀ (n j : Nat), j + n = L → scan b L lo hi j = scan b L lo hi i → zG (d + 1) M_Ta_behind 5 [(2, Int.ofNat 53), (0, lo), (0, hi), (0, (j : Int))] [] mem Q := by
    intro n
    induction n with
    | zero =>
      intro j hj he
      rw [scan_e (by omega)] at he
      rw [← he] at hQ
      exact v_Ta_behind_5 ⟨fun _ => hQ, fun c => by omega⟩
    | succ n ih =>
      intro j hj he
      obtain ⟨c1, c2⟩ := b3 j (by omega)
      refine v_Ta_behind_5 ⟨fun c => by omega, fun c => ⟨by omega, ?_⟩⟩
      rw [Int.toNat_natCast]
      have stop : ¬ (lo ≤ b j ∧ b j ≤ hi) → Q (j : Int) mem := fun q => by
        rw [scan_n (by omega) q] at he
        rw [← he] at hQ
        exact hQ
      refine ⟨fun q => stop (by omega), fun q1 => ⟨by omega, fun q => stop (by omega), fun q2 x1 e1 => ?_⟩⟩
      rw [za (by omega)] at e1
      rw [e1]
      exact ih (j + 1) (by omega) (by rw [← he]; exact (scan_y (by omega) (by omega)).symm)
  refine v_Ta_behind fun x1 e1 => ?_
  rw [e1, h6]
  exact loop (L - i) i (by omega) rfl
theorem c_Ta_refuse {c p : Int} (hQ : ∀ m' : zMem, (mem 53 4 ≠ 0 → m' 53 4 = mem 53 4 ∧ m' 53 5 = mem 53 5) → (mem 53 4 = 0 → m' 53 4 = c ∧ m' 53 5 = p) → (∀ k, k ≠ 53 → m' k = mem k) → (∀ j, j ≠ 4 → j ≠ 5 → m' 53 j = mem 53 j) → Q 0 m') : zC (d + 1) K_Ta_refuse [(2, Int.ofNat 53), (0, c), (0, p)] mem Q := by
  refine v_Ta_refuse ⟨fun q => hQ mem (fun _ => ⟨rfl, rfl⟩) (fun z => absurd z q) (fun _ _ => rfl) (fun _ _ _ => rfl), fun q m1 e1 m2 e2 => hQ m2 (fun z => absurd q z) (fun _ => ⟨?_, ?_⟩) (fun k hk => ?_) (fun j j1 j2 => ?_)⟩
  · rw [e2, zup_j (by omega), e1, zup_e]
  · rw [e2, zup_e]
  · funext j; rw [e2, zup_k hk, e1, zup_k hk]
  · rw [e2, zup_j j2, e1, zup_j j1]
/-- a token is before the class -/
def cTk (m : zMem) (b : Nat → Int) (L i : Nat) : Prop := m 53 7 = tkS b L i ∧ m 53 8 = tkK b L i ∧ (tkK b L i ≠ 0 → m 53 6 = tkE b L i ∧ m 53 4 = 0) ∧ (tkK b L i = 3 → m 53 9 = tkV b L i) ∧ (tkK b L i = 0 → m 53 4 = 1 ∧ m 53 5 = tkS b L i)
theorem c_Ta_nextToken (hB : cB mem b L) (hi : i ≤ L) (h6 : mem 53 6 = i) (h4 : mem 53 4 = 0) (hQ : ∀ m' : zMem, cTk m' b L i → cFr mem m' → Q 0 m') : zC (d + 3) K_Ta_nextToken [(2, Int.ofNat 53)] mem Q := by
  have hle := tk_le (b := b) hi
  have hSs : tkS b L i = scan b L 32 32 i := rfl
  refine v_Ta_nextToken (c_Ta_behind (d := d + 1) hB hi h6 (by omega) (fun m2 e2 m3 e3 => ?_))
  have g2 : m2 53 6 = tkS b L i := by rw [e2, zup_e, hSs]
  rw [g2] at e3
  have g6 : m3 53 6 = tkS b L i := by rw [e3, zup_j (by omega), g2]
  have g7 : m3 53 7 = tkS b L i := by rw [e3, zup_e]
  have g4 : m3 53 4 = 0 := by rw [e3, zup_j (by omega), e2, zup_j (by omega), h4]
  have f3 : cFr mem m3 := ⟨fun k hk => by funext j; rw [e3, zup_k hk, e2, zup_k hk], fun j hj => by rw [e3, zup_j (by omega), e2, zup_j (by omega)]⟩
  have hB3 := hB.fr f3
  obtain ⟨b1, b2, b3⟩ := id hB3
  rw [g6, b1]
  generalize hs : tkS b L i = s at *
  refine ⟨fun c1 => ⟨by omega, fun x2 ex => ?_⟩, fun c1 m29 e29 => hQ m29 ⟨?_, ?_, fun _ => ⟨?_, ?_⟩, fun z => ?_, fun z => ?_⟩ (f3.trans ⟨fun k hk => by funext j; rw [e29, zup_k hk], fun j hj => by rw [e29, zup_j (by omega)]⟩)⟩
  · rw [Int.toNat_natCast] at ex
    obtain ⟨c2, c3⟩ := b3 s (by omega)
    rw [← ex] at c2 c3
    have hnL : ¬ L ≤ s := by omega
    -- it is none
    have none : tkK b L i = 0 → ∀ m8 : zMem, m8 = zup m3 53 8 0 → zC (d + 2) K_Ta_refuse [(2, Int.ofNat 53), (0, 1), (0, m8 53 7)] m8 (fun r5 m9 => zG (d + 3) M_Ta_nextToken 149 [(9, 0), (9, 0)] [] m9 Q) := by
      intro hK m8 e8
      have k4 : m8 53 4 = 0 := by rw [e8, zup_j (by omega), g4]
      refine c_Ta_refuse (d := d + 1) (fun m' q1 q2 q3 q4 => v_Ta_nextToken_149 (hQ m' ⟨?_, ?_, fun z => absurd hK z, fun z => by omega, fun _ => ?_⟩ (f3.trans ⟨fun k hk => ?_, fun j hj => ?_⟩)))
      · rw [q4 7 (by omega) (by omega), e8, zup_j (by omega), g7, hs]
      · rw [q4 8 (by omega) (by omega), e8, zup_e, hK]; rfl
      · rw [(q2 k4).1, (q2 k4).2, e8, zup_j (by omega), g7, hs]; exact ⟨rfl, rfl⟩
      · rw [q3 k hk]; funext j; rw [e8, zup_k hk]
      · rw [q4 j (by omega) (by omega), e8, zup_j (by omega)]
    have sign : tkK b L i = 4 → tkE b L i = s + 1 → ∀ m6 : zMem, m6 = zup m3 53 8 4 → ∀ m7 : zMem, m7 = zup m6 53 6 (zadd (m6 53 6) 1) → zG (d + 3) M_Ta_nextToken 149 [(9, 0), (9, 0)] [] m7 Q := by
      intro hK hE m6 e6 m7 e7
      have k6 : m6 53 6 = s := by rw [e6, zup_j (by omega), g6]
      rw [k6, za (by omega)] at e7
      refine v_Ta_nextToken_149 (hQ m7 ⟨?_, ?_, fun _ => ⟨?_, ?_⟩, fun z => by omega, fun z => by omega⟩ (f3.trans ⟨fun k hk => ?_, fun j hj => ?_⟩))
      · rw [e7, zup_j (by omega), e6, zup_j (by omega), g7, hs]
      · rw [e7, zup_j (by omega), e6, zup_e, hK]; rfl
      · rw [e7, zup_e, hE]; omega
      · rw [e7, zup_j (by omega), e6, zup_j (by omega), g4]
      · funext j; rw [e7, zup_k hk, e6, zup_k hk]
      · rw [e7, zup_j (by omega), e6, zup_j (by omega)]
    have other : ¬ (97 ≤ b s ∧ b s ≤ 122) → ¬ (48 ≤ b s ∧ b s ≤ 57) → (b s = 59 → tkK b L i = 4 ∧ tkE b L i = s + 1) ∧ (b s ≠ 59 → tkK b L i = 0) := by
      intro h1 h2
      unfold tkK tkE
      rw [hs, if_neg hnL, if_neg hnL, if_neg h1, if_neg h1, if_neg h2, if_neg h2]
      exact ⟨fun z => ⟨if_pos z, rfl⟩, fun z => if_neg z⟩
    have num : (48 ≤ b s ∧ b s ≤ 57) → zC (d + 2) K_Ta_behind [(2, Int.ofNat 53), (0, 48), (0, 57)] m3 (fun r7 m12 => ∀ m13 : zMem, m13 = zup m12 53 6 r7 → zC (d + 2) K_Ta_takeFigures [(2, Int.ofNat 53)] m13 (fun r8 m14 => zG (d + 3) M_Ta_nextToken 149 [(9, 0), (9, 0)] [] m14 Q)) := by
      intro hd
      have hnl : ¬ (97 ≤ b s ∧ b s ≤ 122) := by omega
      have hE : tkE b L i = scan b L 48 57 s := by unfold tkE; rw [hs, if_neg hnL, if_neg hnl, if_pos hd]
      have hK : tkK b L i = if 2 < tkE b L i - s then 0 else 3 := by rw [hE]; unfold tkK; rw [hs, if_neg hnL, if_neg hnl, if_pos hd]
      have hin := scan_in (b := b) (L := L) (lo := 48) (hi := 57) (L - s) s (by omega)
      rw [← hE] at hin
      refine c_Ta_behind (d := d + 1) hB3 (i := s) (by omega) g6 (by omega) (fun m13 e13 => ?_)
      rw [← hE] at e13
      have k6 : m13 53 6 = tkE b L i := by rw [e13, zup_e]
      have k7 : m13 53 7 = s := by rw [e13, zup_j (by omega), g7]
      have k4 : m13 53 4 = 0 := by rw [e13, zup_j (by omega), g4]
      have f13 : cFr mem m13 := f3.trans ⟨fun k hk => by funext j; rw [e13, zup_k hk], fun j hj => by rw [e13, zup_j (by omega)]⟩
      refine v_Ta_takeFigures ?_
      rw [k6, k7, zs (by omega)]
      refine ⟨fun c4 m1 e1 m2 e2 x1 ex1 => ?_, fun c4 m3' e3' => ?_⟩
      · have hK3 : tkK b L i = 3 := by rw [hK, if_neg (by omega)]
        have fin : ∀ m' : zMem, m' 53 9 = tkV b L i → (∀ k, k ≠ 53 → m' k = m13 k) → (∀ j, j ≠ 8 → j ≠ 9 → m' 53 j = m13 53 j) → m' 53 8 = 3 → zG (d + 3) M_Ta_nextToken 149 [(9, 0), (9, 0)] [] m' Q := by
          intro m' q9 qk qj q8
          refine v_Ta_nextToken_149 (hQ m' ⟨?_, ?_, fun _ => ⟨?_, ?_⟩, fun _ => q9, fun z => by omega⟩ (f13.trans ⟨qk, fun j hj => qj j (by omega) (by omega)⟩))
          · rw [qj 7 (by omega) (by omega), k7, hs]
          · rw [q8, hK3]; rfl
          · rw [qj 6 (by omega) (by omega), k6]
          · rw [qj 4 (by omega) (by omega), k4]
        have hx1 : x1 = s := by rw [ex1, e2, zup_j (by omega), e1, zup_j (by omega), k7]
        have k62 : m2 53 6 = tkE b L i := by rw [e2, zup_j (by omega), e1, zup_j (by omega), k6]
        have k92 : m2 53 9 = 0 := by rw [e2, zup_e]
        have k54 : m2 54 = m3 54 := by funext j; rw [e2, zup_k (by omega), e1, zup_k (by omega), e13, zup_k (by omega)]
        have hs1 : s < tkE b L i := by rw [hE]; exact scan_at (by omega) hd
        have dig : ∀ j, s ≤ j → j < tkE b L i → m3 54 j = b j ∧ 48 ≤ b j ∧ b j ≤ 57 := fun j j1 j2 => by
          have := hin j j1 j2
          have := b3 j (by omega)
          omega
        have hV : tkV b L i = if tkE b L i - s = 1 then b s - 48 else 10 * (b s - 48) + (b (s + 1) - 48) := by unfold tkV; rw [hs]
        rw [hx1]
        obtain ⟨d1, d2⟩ := dig s (by omega) hs1
        refine v_Ta_takeFigures_44 ?_
        rw [k62, k92, k54, Int.toNat_natCast, d1, zm (by omega), za (x := 10 * 0) (by omega), zs (by omega)]
        refine ⟨fun z => by omega, fun _ => ⟨by omega, fun m5 e5 x5 ex5 => ?_⟩⟩
        rw [za (by omega)] at ex5
        have j6 : m5 53 6 = tkE b L i := by rw [e5, zup_j (by omega), k62]
        have j9 : m5 53 9 = b s - 48 := by rw [e5, zup_e]; omega
        have j54 : m5 54 = m3 54 := by funext j; rw [e5, zup_k (by omega), k54]
        have j8 : m5 53 8 = 3 := by rw [e5, zup_j (by omega), e2, zup_j (by omega), e1, zup_e]
        refine v_Ta_takeFigures_44 ?_
        rw [j6, j9, j54]
        refine ⟨fun z => fin m5 ?_ (fun k hk => ?_) (fun j j1 j2 => ?_) j8, fun z => ⟨by omega, fun m7 e7 x7 ex7 => ?_⟩⟩
        · rw [j9, hV, if_pos (by omega)]
        · funext j; rw [e5, zup_k hk, e2, zup_k hk, e1, zup_k hk]
        · rw [e5, zup_j j2, e2, zup_j j2, e1, zup_j j1]
        · obtain ⟨d3, d4⟩ := dig (s + 1) (by omega) (by omega)
          rw [ex5, show ((s : Int) + 1).toNat = s + 1 by omega, d3, zm (by omega), za (by omega), zs (by omega)] at e7
          rw [za (by omega)] at ex7
          refine v_Ta_takeFigures_44 ?_
          have l6 : m7 53 6 = tkE b L i := by rw [e7, zup_j (by omega), j6]
          rw [l6]
          refine ⟨fun _ => fin m7 ?_ (fun k hk => ?_) (fun j j1 j2 => ?_) ?_, fun z2 => by omega⟩
          · rw [e7, zup_e, hV, if_neg (by omega)]; omega
          · funext j; rw [e7, zup_k hk, e5, zup_k hk, e2, zup_k hk, e1, zup_k hk]
          · rw [e7, zup_j j2, e5, zup_j j2, e2, zup_j j2, e1, zup_j j1]
          · rw [e7, zup_j (by omega), j8]
      · have hK0 : tkK b L i = 0 := by rw [hK, if_pos (by omega)]
        have y4 : m3' 53 4 = 0 := by rw [e3', zup_j (by omega), k4]
        refine c_Ta_refuse (d := d) (fun m' q1 q2 q3 q4 => v_Ta_nextToken_149 (hQ m' ⟨?_, ?_, fun z => absurd hK0 z, fun z => by omega, fun _ => ?_⟩ (f13.trans ⟨fun k hk => ?_, fun j hj => ?_⟩)))
        · rw [q4 7 (by omega) (by omega), e3', zup_j (by omega), k7, hs]
        · rw [q4 8 (by omega) (by omega), e3', zup_e, hK0]; rfl
        · rw [(q2 y4).1, (q2 y4).2, e3', zup_j (by omega), k7, hs]; exact ⟨rfl, rfl⟩
        · rw [q3 k hk]; funext j; rw [e3', zup_k hk]
        · rw [q4 j (by omega) (by omega), e3', zup_j (by omega)]
    refine ⟨fun c4 => ⟨fun c5 => ⟨fun c6 => none ?_, fun c6 => sign ?_ ?_⟩, fun c5 => ⟨fun c6 => ⟨fun c7 => none ?_, fun c7 => sign ?_ ?_⟩, fun c6 => num (by omega)⟩⟩, fun c4 => ⟨fun c5 => ⟨fun c6 => by omega, fun c6 => ⟨fun c7 => ⟨fun c8 => none ?_, fun c8 => by omega⟩, fun c7 => by omega⟩⟩, fun c5 m26 e26 => ?_⟩⟩
    · exact (other (by omega) (by omega)).2 (by omega)
    · exact ((other (by omega) (by omega)).1 (by omega)).1
    · exact ((other (by omega) (by omega)).1 (by omega)).2
    · exact (other (by omega) (by omega)).2 (by omega)
    · exact ((other (by omega) (by omega)).1 (by omega)).1
    · exact ((other (by omega) (by omega)).1 (by omega)).2
    · exact (other (by omega) (by omega)).2 (by omega)
    · have hl : 97 ≤ b s ∧ b s ≤ 122 := by omega
      have hE : tkE b L i = scan b L 97 122 s := by unfold tkE; rw [hs, if_neg hnL, if_pos hl]
      have hK : tkK b L i = 2 := by unfold tkK; rw [hs, if_neg hnL, if_pos hl]
      have f26 : cFr m3 m26 := ⟨fun k hk => by funext j; rw [e26, zup_k hk], fun j hj => by rw [e26, zup_j (by omega)]⟩
      refine c_Ta_behind (d := d + 1) (hB3.fr f26) (i := s) (by omega) (by rw [e26, zup_j (by omega), g6]) (by omega) (fun m28 e28 => ?_)
      rw [← hE] at e28
      refine v_Ta_nextToken_149 (hQ m28 ⟨?_, ?_, fun _ => ⟨?_, ?_⟩, fun z => by omega, fun z => by omega⟩ ((f3.trans f26).trans ⟨fun k hk => by funext j; rw [e28, zup_k hk], fun j hj => by rw [e28, zup_j (by omega)]⟩))
      · rw [e28, zup_j (by omega), e26, zup_j (by omega), g7, hs]
      · rw [e28, zup_j (by omega), e26, zup_e, hK]; rfl
      · rw [e28, zup_e]
      · rw [e28, zup_j (by omega), e26, zup_j (by omega), g4]
  · rw [e29, zup_j (by omega), g7, hs]
  · have : tkK b L i = 1 := by unfold tkK; rw [hs, if_pos (by omega)]
    rw [e29, zup_e, this]; rfl
  · have : tkE b L i = s := by unfold tkE; rw [hs, if_pos (by omega)]
    rw [e29, zup_j (by omega), g6, this]
  · rw [e29, zup_j (by omega), g4]
  · have : tkK b L i = 1 := by unfold tkK; rw [hs, if_pos (by omega)]
    omega
  · have : tkK b L i = 1 := by unfold tkK; rw [hs, if_pos (by omega)]
    omega
end
