section
/-! palace: the reference's text. -/
variable {d : Nat} {mem m m' m2 : zMem} {Q : Int → zMem → Prop} {b : Nat → Int} {L i j : Nat} {st st' : zPD} {g : zPg} {ws h v l1 : Int}
/-- the whole text -/
noncomputable def palF (b : Nat → Int) (L : Nat) : Sum (Int × Nat) (Nat × zPD) := bnd (txF b L L 0 st0 0) (fun r => @ite _ (allF r.2) (Classical.propDecidable _) (.inr r) (.inl (6, L)))
def qFr (mem m' : zMem) : Prop := (∀ k, k ≠ 122 → k ≠ 123 → k ≠ 124 → k ≠ 142 → m' k = mem k) ∧ m' 122 43 = mem 122 43
theorem vFr.q (h : vFr mem m') : qFr mem m' := ⟨fun k k1 _ k3 _ => h.1 k k1 k3, h.2 43 (by omega)⟩
theorem l_Mo_185 (hW : pdW st) (h6 : mem 122 6 = st.2.2.2.2) (hQ : ∀ m' : zMem, (∀ x, x < 88 → m' 123 x = gWn st.1 st.2.2.2.2 (gN st.1).toNat x) → (∀ x, 88 ≤ x → m' 123 x = mem 123 x) → (∀ c, c ≠ 122 → c ≠ 123 → c ≠ 142 → m' c = mem c) → m' 122 1 = mem 122 3 → (∀ x, x ≠ 1 → m' 122 x = mem 122 x) → m' 142 0 = 0 → m' 142 1 = 0 → Q l1 m') : ∀ (n k : Nat) (m : zMem), k + n = (gN st.1).toNat → (∀ x, x < 88 → m 123 x = gWn st.1 st.2.2.2.2 k x) → (∀ x, 88 ≤ x → m 123 x = mem 123 x) → (∀ c, c ≠ 123 → m c = mem c) → zG (d + 2) M_Mo_palace 185 [(2, Int.ofNat 122), (0, l1), (0, (k : Int))] [] m Q := by
  have hN := hW.1.1
  intro n
  induction n with
  | zero =>
    intro k m hk h1 h2 h3
    have eN : m 123 56 = gN st.1 := by rw [h1 56 (by omega)]; exact gWn_at (by omega)
    refine v_Mo_palace_185 (c_Mo_doorMany (d := d) ?_)
    rw [eN]
    refine ⟨fun _ m2 e2 m3 e3 m4 e4 => ?_, fun z => by omega⟩
    refine hQ m4 (fun x hx => ?_) (fun x hx => ?_) (fun c c1 c2 c3 => ?_) ?_ (fun x hx => ?_) ?_ ?_
    · rw [e4, zup_k (by omega), e3, zup_k (by omega), e2, zup_k (by omega), h1 x hx, show (gN st.1).toNat = k by omega]
    · rw [e4, zup_k (by omega), e3, zup_k (by omega), e2, zup_k (by omega), h2 x hx]
    · funext x; rw [e4, zup_k c3, e3, zup_k c3, e2, zup_k c1, h3 c c2]
    · rw [e4, zup_k (by omega), e3, zup_k (by omega), e2, zup_e, h3 122 (by omega)]
    · rw [e4, zup_k (by omega), e3, zup_k (by omega), e2, zup_j hx, h3 122 (by omega)]
    · rw [e4, zup_j (by omega), e3, zup_e]
    · rw [e4, zup_e]
  | succ n ih =>
    intro k m hk h1 h2 h3
    have eN : m 123 56 = gN st.1 := by rw [h1 56 (by omega)]; exact gWn_at (by omega)
    refine v_Mo_palace_185 (c_Mo_doorMany (d := d) ?_)
    rw [eN, zm (by omega), za (by omega), show (4 * (k : Int) + 3).toNat = 4 * k + 3 by omega, h3 122 (by omega), h6]
    refine ⟨fun z => by omega, fun _ => ⟨by omega, fun m5 e5 x2 ex => ?_⟩⟩
    rw [za (by omega)] at ex
    rw [ex]
    refine ih (k + 1) m5 (by omega) (fun x hx => ?_) (fun x hx => ?_) (fun c hc => ?_)
    · rw [gWn_s]
      unfold gWall
      by_cases e : x = 4 * k + 3
      · rw [if_pos e, e5, e, zup_e]
      · rw [if_neg e, e5, zup_j e, h1 x hx]
    · rw [e5, zup_j (by omega), h2 x hx]
    · funext x; rw [e5, zup_k hc, h3 c hc]
theorem l_Mo_159 (hQ : ∀ m' : zMem, (∀ x, x < 88 → m' 123 x = mem 124 x) → (∀ x, 88 ≤ x → m' 123 x = mem 123 x) → (∀ c, c ≠ 123 → m' c = mem c) → zG (d + 2) M_Mo_palace 185 [(2, Int.ofNat 122), (0, l1), (0, 0)] [] m' Q) : ∀ (n k : Nat) (m : zMem), k + n = 88 → (∀ x, x < k → m 123 x = mem 124 x) → (∀ x, k ≤ x → m 123 x = mem 123 x) → (∀ c, c ≠ 123 → m c = mem c) → zG (d + 2) M_Mo_palace 159 [(2, Int.ofNat 122), (0, l1), (0, (k : Int))] [] m Q := by
  intro n
  induction n with
  | zero =>
    intro k m hk h1 h2 h3
    exact v_Mo_palace_159 ⟨fun _ => hQ m (fun x hx => h1 x (by omega)) (fun x hx => h2 x (by omega)) h3, fun z => by omega⟩
  | succ n ih =>
    intro k m hk h1 h2 h3
    refine v_Mo_palace_159 ⟨fun z => by omega, fun _ => ⟨by omega, by omega, fun m1 e1 x1 ex => ?_⟩⟩
    rw [Int.toNat_natCast, h3 124 (by omega)] at e1
    rw [za (by omega)] at ex
    rw [ex]
    refine ih (k + 1) m1 (by omega) (fun x hx => ?_) (fun x hx => ?_) (fun c hc => ?_)
    · by_cases e : x = k
      · rw [e1, e, zup_e]
      · rw [e1, zup_j e, h1 x (by omega)]
    · rw [e1, zup_j (by omega), h2 x (by omega)]
    · funext x; rw [e1, zup_k hc, h3 c hc]
theorem rD.all (hd : rD m st) (hW : pdW st) : allF st ↔ m 122 7 < m 122 3 ∧ m 122 8 < m 124 56 := by
  obtain ⟨d1, d2, d3, d4, d5, d6, d7, d8⟩ := hd
  obtain ⟨x1, x2, x3, x4, x5, x6, x7, x8, x9⟩ := hW
  have e : m 124 56 = gN st.1 := d1 56 (by omega)
  rw [d3, e, d7 st.2.1 (by omega), d8 (gN st.1) x1.1.1]
  unfold allF
  constructor
  · rintro ⟨a1, a2, a3⟩; exact ⟨⟨a1, a2⟩, a3⟩
  · rintro ⟨⟨a1, a2⟩, a3⟩; exact ⟨a1, a2, a3⟩
theorem l_Mo_67 {n0 : Nat}
    (hE : ∀ (c : Int) (p : Nat), palF b L = .inl (c, p) → ∀ m' : zMem, m' 122 10 = 0 → m' 122 11 = c → m' 122 1 = mem 122 1 → m' 123 = mem 123 → m' 142 = mem 142 → qFr mem m' → Q (zsub (-10) (p : Int)) m')
    (hK : ∀ (n : Nat) (st : zPD), palF b L = .inr (n, st) → allF st → pdW st → ∀ m' : zMem, (∀ x, x < 88 → m' 123 x = gWn st.1 st.2.2.2.2 (gN st.1).toNat x) → m' 122 1 = st.2.1 → m' 122 10 = 0 → m' 122 11 = 0 → m' 142 0 = 0 → m' 142 1 = 0 → qFr mem m' → Q (n : Int) m') :
    ∀ (f n i : Nat) (st : zPD) (m : zMem), n + f = L → n ≤ i → i ≤ L → txF b L L 0 st0 0 = txF b L f i st n → rB m b L → rTk m b L i → pdW st → rD m st → vFr mem m → zG (d + 7) M_Mo_palace 67 [(2, Int.ofNat 122), (0, (n : Int)), (9, 0)] [] m Q := by
  -- a fault
  have brk : ∀ (c : Int) (p : Nat) (l1 : Int) (m' : zMem), palF b L = .inl (c, p) → 0 < c → rBr m' c p → vFr mem m' → zG (d + 7) M_Mo_palace 129 [(2, Int.ofNat 122), (0, l1), (9, 0)] [] m' Q := by
    intro c p l1 m' hp hc hb hf
    refine v_Mo_palace_129 (fun m1 e1 m2 e2 => ?_)
    have h12 : m2 122 12 = c := by rw [e2, zup_j (by omega), e1, zup_j (by omega), hb.1]
    have h13 : m2 122 13 = p := by rw [e2, zup_j (by omega), e1, zup_j (by omega), hb.2]
    rw [h12, h13]
    have ek : ∀ k, k ≠ 122 → m2 k = m' k := fun k hk => by funext x; rw [e2, zup_k hk, e1, zup_k hk]
    refine ⟨fun z => by omega, fun _ => hE c p hp m2 ?_ ?_ ?_ ?_ ?_ ⟨fun k k1 k2 k3 k4 => ?_, ?_⟩⟩
    · rw [e2, zup_j (by omega), e1, zup_e]
    · rw [e2, zup_e, e1, zup_j (by omega), hb.1]
    · rw [e2, zup_j (by omega), e1, zup_j (by omega), hf.2 1 (by omega)]
    · rw [ek 123 (by omega), hf.1 123 (by omega) (by omega)]
    · rw [ek 142 (by omega), hf.1 142 (by omega) (by omega)]
    · rw [ek k k1, hf.1 k k1 k3]
    · rw [e2, zup_j (by omega), e1, zup_j (by omega), hf.2 43 (by omega)]
  have brk67 : ∀ (c : Int) (p : Nat) (l1 : Int) (m' : zMem), palF b L = .inl (c, p) → 0 < c → rBr m' c p → vFr mem m' → zG (d + 7) M_Mo_palace 67 [(2, Int.ofNat 122), (0, l1), (9, 0)] [] m' Q := by
    intro c p l1 m' hp hc hb hf
    have h12 := hb.1
    exact v_Mo_palace_67 ⟨fun _ => ⟨fun _ => brk c p l1 m' hp hc hb hf, fun z => by omega⟩, fun z => by omega⟩
  -- the end of the text
  have fin : ∀ (n i : Nat) (st : zPD) (m : zMem), i ≤ L → txF b L L 0 st0 0 = .inr (n, st) → rTk m b L i → tkK b L i = 1 → pdW st → rD m st → vFr mem m → zG (d + 7) M_Mo_palace 67 [(2, Int.ofNat 122), (0, (n : Int)), (9, 0)] [] m Q := by
    intro n i st m hi hx ht k1 hW hd hf
    obtain ⟨w15, wk, wv, w0⟩ := id ht
    obtain ⟨y12, y16, y14⟩ := wk (by omega)
    have hle := tk_le (b := b) hi
    have hS : tkS b L i = L := hle.2.2.2.2.mp k1
    have hall := hd.all hW
    have hpal : palF b L = @ite _ (allF st) (Classical.propDecidable _) (.inr (n, st)) (.inl (6, L)) := by unfold palF; rw [hx]; rfl
    have bad : ¬ allF st → zC (d + 6) K_Mo_fails [(2, Int.ofNat 122), (0, 6)] m (fun r1 m1 => zG (d + 7) M_Mo_palace 129 [(2, Int.ofNat 122), (0, (n : Int)), (9, 0)] [] m1 Q) := by
      intro hn
      rw [if_neg hn] at hpal
      exact c_Mo_fails (d := d + 5) (fun m2 q1 q2 q3 q4 => brk 6 L n m2 hpal (by decide) ⟨(q2 y12).1, by rw [(q2 y12).2, w15, hS]⟩ (hf.trans (rFr.vf ⟨q3, fun x hx => q4 x (by omega) (by omega)⟩)))
    refine v_Mo_palace_67 ⟨fun z => absurd y12 z, fun _ => ⟨fun _ => ⟨fun z => absurd y12 z, fun _ => ⟨fun c => bad (fun q => ?_), fun c => ⟨fun c2 => ?_, fun c2 => bad (fun q => ?_)⟩⟩⟩, fun z => absurd (by rw [y16, k1]; rfl) z⟩⟩
    · have := hall.mp q; omega
    · have ha := hall.mpr ⟨c, c2⟩
      rw [if_pos ha] at hpal
      refine v_Mo_palace_129 (fun m1 e1 m2 e2 => ?_)
      have f2 : ∀ k, k ≠ 122 → m2 k = m k := fun k hk => by funext x; rw [e2, zup_k hk, e1, zup_k hk]
      have j2 : ∀ x, x ≠ 10 → x ≠ 11 → m2 122 x = m 122 x := fun x x1 x2 => by rw [e2, zup_j x2, e1, zup_j x1]
      have h12 : m2 122 12 = 0 := by rw [j2 12 (by omega) (by omega), y12]
      rw [h12]
      refine ⟨fun _ => l_Mo_159 (d := d + 5) (mem := m2) (fun m3 a1 a2 a3 => l_Mo_185 (d := d + 5) (mem := m3) hW (by rw [a3 122 (by omega), j2 6 (by omega) (by omega)]; exact hd.2.2.2.2.2.1) (fun m4 b1 b2 b3 b4 b5 b6 b7 => hK n st hpal ha hW m4 b1 ?_ ?_ ?_ b6 b7 ⟨fun k k1 k2 k3 k4 => ?_, ?_⟩) (gN st.1).toNat 0 m3 (by omega) (fun x hx => ?_) (fun _ _ => rfl) (fun _ _ => rfl)) 88 0 m2 (by omega) (fun x hx => by omega) (fun _ _ => rfl) (fun _ _ => rfl), fun z => by omega⟩
      · rw [b4, a3 122 (by omega), j2 3 (by omega) (by omega)]; exact hd.2.2.1
      · rw [b5 10 (by omega), a3 122 (by omega), e2, zup_j (by omega), e1, zup_e]
      · rw [b5 11 (by omega), a3 122 (by omega), e2, zup_e, e1, zup_j (by omega), y12]
      · rw [b3 k k1 k2 k4, a3 k k2, f2 k k1, hf.1 k k1 k3]
      · rw [b5 43 (by omega), a3 122 (by omega), j2 43 (by omega) (by omega), hf.2 43 (by omega)]
      · rw [gWn_0, a1 x hx, f2 124 (by omega), hd.1 x hx]
    · have := hall.mp q; omega
  intro f
  induction f with
  | zero =>
    intro n i st m hn hni hi hx hB ht hW hd hf
    have hle := tk_le (b := b) hi
    exact fin n i st m hi (by rw [hx]; rfl) ht (hle.2.2.2.2.mpr (by omega)) hW hd hf
  | succ f ih =>
    intro n i st m hn hni hi hx hB ht hW hd hf
    have hle := tk_le (b := b) hi
    by_cases k1 : tkK b L i = 1
    · exact fin n i st m hi (by rw [hx]; unfold txF; rw [if_pos k1]) ht k1 hW hd hf
    · have hx : txF b L L 0 st0 0 = bnd (lnF b L i st) (fun x => txF b L f x.1 x.2 (n + 1)) := by
        rw [hx]
        show (if tkK b L i = 1 then _ else _) = _
        rw [if_neg k1]
      obtain ⟨w15, wk, wv, w0⟩ := id ht
      by_cases k0 : tkK b L i = 0
      · obtain ⟨y1, y2⟩ := w0 k0
        exact brk67 1 (tkS b L i) n m (by unfold palF; rw [hx]; unfold lnF; rw [if_pos k0]; rfl) (by decide) ⟨y1, y2⟩ hf
      · obtain ⟨y12, y16, y14⟩ := wk k0
        refine v_Mo_palace_67 ⟨fun z => absurd y12 z, fun _ => ⟨fun z => absurd (by omega) k1, fun _ => ?_⟩⟩
        refine c_Mo_readLine (d := d) hB hi ht k0 hW hd (fun c p hl hc m1 hb hf1 x12 ex => ?_) (fun j st' hl hj hW' m1 ht1 hd1 hf1 x12 ex => ?_)
        · exact brk67 c p x12 m1 (by unfold palF; rw [hx, hl]; rfl) hc hb (hf.trans hf1)
        · have hlt := lnF_lt hi hl
          have hL := hB.2.1
          rw [za (by omega)] at ex
          rw [ex]
          exact ih (n + 1) j st' m1 (by omega) (by omega) hj (by rw [hx, hl]; rfl) (hB.vf hf1) ht1 hW' hd1 (hf.trans hf1)
theorem c_Mo_palace (hB : rB mem b L)
    (hE : ∀ (c : Int) (p : Nat), palF b L = .inl (c, p) → ∀ m' : zMem, m' 122 10 = 0 → m' 122 11 = c → m' 122 1 = mem 122 1 → m' 123 = mem 123 → m' 142 = mem 142 → qFr mem m' → Q (zsub (-10) (p : Int)) m')
    (hK : ∀ (n : Nat) (st : zPD), palF b L = .inr (n, st) → allF st → pdW st → ∀ m' : zMem, (∀ x, x < 88 → m' 123 x = gWn st.1 st.2.2.2.2 (gN st.1).toNat x) → m' 122 1 = st.2.1 → m' 122 10 = 0 → m' 122 11 = 0 → m' 142 0 = 0 → m' 142 1 = 0 → qFr mem m' → Q (n : Int) m') : zC (d + 7) K_Mo_palace [(2, Int.ofNat 122)] mem Q := by
  refine v_Mo_palace (fun m1 e1 m2 e2 m3 e3 m4 e4 m5 e5 m6 e6 m7 e7 m8 e8 => ?_)
  have f8 : vFr mem m8 := (((((((vFr.refl.up e1 (by omega)).up e2 (by omega)).up e3 (by omega)).up e4 (by omega)).up e5 (by omega)).up e6 (by omega)).up e7 (by omega)).up e8 (by omega)
  have s12 : m8 122 12 = 0 := by rw [e8, zup_j (by omega), e7, zup_j (by omega), e6, zup_j (by omega), e5, zup_j (by omega), e4, zup_j (by omega), e3, zup_j (by omega), e2, zup_j (by omega), e1, zup_e]
  have s14 : m8 122 14 = 0 := by rw [e8, zup_j (by omega), e7, zup_j (by omega), e6, zup_j (by omega), e5, zup_j (by omega), e4, zup_j (by omega), e3, zup_j (by omega), e2, zup_e]
  have s3 : m8 122 3 = 4 := by rw [e8, zup_j (by omega), e7, zup_j (by omega), e6, zup_j (by omega), e5, zup_j (by omega), e4, zup_j (by omega), e3, zup_e]
  have s4 : m8 122 4 = 0 := by rw [e8, zup_j (by omega), e7, zup_j (by omega), e6, zup_j (by omega), e5, zup_j (by omega), e4, zup_e]
  have s5 : m8 122 5 = 0 := by rw [e8, zup_j (by omega), e7, zup_j (by omega), e6, zup_j (by omega), e5, zup_e]
  have s6 : m8 122 6 = 0 := by rw [e8, zup_j (by omega), e7, zup_j (by omega), e6, zup_e]
  have s7 : m8 122 7 = -1 := by rw [e8, zup_j (by omega), e7, zup_e]
  have s8 : m8 122 8 = -1 := by rw [e8, zup_e]
  have loop : ∀ (n k : Nat) (m : zMem), k + n = 88 → (∀ x, x < k → m 124 x = 0) → (∀ c, c ≠ 124 → m c = m8 c) → zG (d + 7) M_Mo_palace 44 [(2, Int.ofNat 122), (0, 0), (0, (k : Int))] [] m Q := by
    intro n
    induction n with
    | zero =>
      intro k m hk h1 h2
      refine v_Mo_palace_44 ⟨fun _ => ?_, fun z => by omega⟩
      have fm : vFr mem m := f8.trans ⟨fun c c1 c2 => h2 c c2, fun x hx => by rw [h2 122 (by omega)]⟩
      have e := h2 122 (by omega)
      refine c_Mo_step (d := d + 4) (hB.vf fm) (i := 0) (by omega) (by rw [e, s14]; rfl) (by rw [e, s12]) (fun m9 ht9 hf9 => ?_)
      refine l_Mo_67 (n0 := 0) (d := d) hE hK L 0 0 st0 m9 (by omega) (by omega) (by omega) rfl ((hB.vf fm).fr hf9) ht9 st0_W ?_ (fm.trans hf9.vf)
      refine rD.fr ?_ hf9
      refine ⟨fun x hx => h1 x (by omega), fun k _ _ => ⟨rfl, rfl⟩, by rw [e, s3]; rfl, by rw [e, s4]; rfl, by rw [e, s5]; rfl, by rw [e, s6]; rfl, ?_, ?_⟩
      · rw [e, s7]
        intro v hv
        refine ⟨fun _ => ⟨fun k hk => ?_, fun p hp => ?_⟩, fun _ => by omega⟩
        · have hk : (k : Int) < 0 := hk
          omega
        · have hp : (p : Int) < 0 := hp
          omega
      · rw [e, s8]
        intro v hv
        exact ⟨fun _ j hj hb => absurd hb (zB_0 j), fun _ => by omega⟩
    | succ n ih =>
      intro k m hk h1 h2
      refine v_Mo_palace_44 ⟨fun z => by omega, fun _ => ⟨by omega, fun m2 e2 x2 ex => ?_⟩⟩
      rw [Int.toNat_natCast] at e2
      rw [za (by omega)] at ex
      rw [ex]
      refine ih (k + 1) m2 (by omega) (fun x hx => ?_) (fun c hc => ?_)
      · by_cases e : x = k
        · rw [e2, e, zup_e]
        · rw [e2, zup_j e, h1 x (by omega)]
      · funext x; rw [e2, zup_k hc, h2 c hc]
  exact loop 88 0 m8 (by omega) (fun x hx => by omega) (fun _ _ => rfl)
end
