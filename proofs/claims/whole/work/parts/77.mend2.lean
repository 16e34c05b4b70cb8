section
variable {d w : Nat} {mem m m' m2 : zMem} {Q : Int → zMem → Prop} {R S : zMem → Prop} {g g' g1 g2 : zPg} {b : zBf} {rm pl r t u p : Int} {k s : Nat}
/-! the reference -/
def fFm (mem m' : zMem) : Prop := (∀ k, k ≠ 122 → k ≠ 123 → (k < 128 ∨ 131 < k) → m' k = mem k) ∧ ∀ j, j ≠ 24 → j ≠ 34 → j ≠ 35 → m' 122 j = mem 122 j
theorem fFm.refl : fFm mem mem := ⟨fun _ _ _ _ => rfl, fun _ _ _ _ => rfl⟩
theorem fFm.trans (h : fFm mem m') (h' : fFm m' m2) : fFm mem m2 := ⟨fun k k1 k2 k3 => by rw [h'.1 k k1 k2 k3, h.1 k k1 k2 k3], fun j j1 j2 j3 => by rw [h'.2 j j1 j2 j3, h.2 j j1 j2 j3]⟩
theorem fFr.fm (h : fFr mem m') : fFm mem m' := ⟨fun k k1 _ k3 => h.1 k k1 k3, fun j j1 _ _ => h.2 j j1⟩
/-- a door more, something of it, the door gone again -/
theorem gNw_back (hn : 0 ≤ gN g ∧ gN g < 14) (h : gNw g g') {a c e : Int} {p : zPg} (hp : gNw (gAdd g' a c e) p) {p2 : zPg} (h56 : p2 56 = gN g) (ho : ∀ i, i ≠ 56 → p2 i = p i) : gNw g p2 := by
  have q := h.q ⟨hn.1, by omega⟩
  have hn' : 0 ≤ gN g' ∧ gN g' < 14 := by rw [q.1]; exact hn
  have eN : gN (gAdd g' a c e) = gN g + 1 := by rw [(gAdd_at (g := g') (a := a) (b := c) (c := e) hn').1, q.1]
  intro i hi
  by_cases z : i = 56
  · rw [z, h56]; rfl
  · rw [ho i z, hp i (by rw [eN]; omega)]
    have : gAdd g' a c e i = g' i := by
      unfold gAdd
      rw [q.1, if_neg (by omega), if_neg (by omega), if_neg (by omega), if_neg (by omega), if_neg z]
    rw [this, h i hi]
theorem c_Mo_mendsOne {x : Int} (hD : gDo (mem 123)) (hrr : ∀ k : Nat, (k : Int) < gN (mem 123) → gA (mem 123) k < mem 122 1 ∧ gB (mem 123) k < mem 122 1) (hrm : 0 < mem 122 1 ∧ mem 122 1 ≤ 10)
    (hQ1 : gN (mem 123) < 14 → ∀ (m' : zMem) (k : Nat), gS1 (mem 123) (mem 122 1) k → (∀ j, j < k → ¬ gS1 (mem 123) (mem 122 1) j) → gNw (mem 123) (m' 123) → fFm mem m' → (x = 0 → m' 122 34 = k ∧ m' 122 35 = -4) → (x ≠ 0 → m' 122 35 = k) → Q 1 m')
    (hQ0 : ∀ m' : zMem, (gN (mem 123) < 14 → ∀ j, ¬ gS1 (mem 123) (mem 122 1) j) → gNw (mem 123) (m' 123) → fFm mem m' → m' 122 34 = mem 122 34 → m' 122 35 = mem 122 35 → Q 0 m') : zC (d + 6) K_Mo_mendsOne [(2, Int.ofNat 122), (0, x)] mem Q := by
  have hn := hD.1
  have loop : ∀ (n k : Nat) (m : zMem), k + n = 100 → (gN (mem 123) < 14 → ∀ j, j < k → ¬ gS1 (mem 123) (mem 122 1) j) → gNw (mem 123) (m 123) → fFm mem m → m 122 34 = mem 122 34 → m 122 35 = mem 122 35 → zG (d + 6) M_Mo_mendsOne 2 [(2, Int.ofNat 122), (0, x), (0, (k : Int)), (9, 0)] [] m Q := by
    intro n
    induction n with
    | zero =>
      intro k m hk hno hg hf h34 h35
      refine v_Mo_mendsOne_2 ⟨fun c => hQ0 m (fun z j q => ?_) hg hf h34 h35, fun c => by omega⟩
      exact hno z j (by have := q.1.1; omega) q
    | succ n ih =>
      intro k m hk hno hg hf h34 h35
      have e56 : m 123 56 = gN (mem 123) := (hg.q hn).1
      have e1 : m 122 1 = mem 122 1 := hf.2 1 (by omega) (by omega) (by omega)
      refine v_Mo_mendsOne_2 ⟨fun c => by omega, fun c => c_Mo_doorMany (d := d + 4) ?_⟩
      rw [e56]
      refine ⟨fun c2 => hQ0 m (fun z => by omega) hg hf h34 h35, fun c2 => ?_⟩
      rw [zd (by omega) (by omega), zr (by omega) (by omega), e1]
      have nx : ¬ gS1 (mem 123) (mem 122 1) k → ∀ m1 : zMem, gNw (mem 123) (m1 123) → fFm mem m1 → m1 122 34 = mem 122 34 → m1 122 35 = mem 122 35 → ∀ x2 : Int, x2 = zadd (k : Int) 1 → zG (d + 6) M_Mo_mendsOne 2 [(2, Int.ofNat 122), (0, x), (0, x2), (9, 0)] [] m1 Q := by
        intro hnk m1 hg1 hf1 a34 a35 x2 e2
        rw [za (by omega)] at e2
        rw [e2]
        refine ih (k + 1) m1 (by omega) (fun z j hj => ?_) hg1 hf1 a34 a35
        by_cases e : j = k
        · rw [e]; exact hnk
        · exact hno z j (by omega)
      refine ⟨fun c3 => nx (fun q => by have := q.1.2.1; omega) m hg hf h34 h35, fun c3 => ⟨fun c4 => nx (fun q => by have := q.1.2.2; omega) m hg hf h34 h35, fun c4 => ?_⟩⟩
      have hp : gVp (mem 122 1) k := ⟨by omega, by omega, by omega⟩
      have e10 : (k : Int) / 10 = ((k / 10 : Nat) : Int) := by omega
      have e1' : (k : Int) % 10 = ((k % 10 : Nat) : Int) := by omega
      rw [e10, e1']
      have hq := hg.q hn
      refine c_Mo_addDoor (d := d + 3) (by rw [hq.1]; exact ⟨hn.1, c2⟩) (fun m1 g1 f1 => ?_)
      have hqa : gQ (gA2 (mem 123) k) (m1 123) := by rw [g1]; exact hq.add ⟨hn.1, c2⟩
      have hN2 : gN (gA2 (mem 123) k) = gN (mem 123) + 1 := gA2_N ⟨hn.1, c2⟩
      have hD1 : gDo (m1 123) := gDo.q hqa (gA2_Do hD c2 hrm.2 hp)
      have hsf : gSf (m1 123) (mem 122 1) ↔ gSf (gA2 (mem 123) k) (mem 122 1) := gSf.q hqa (by omega)
      have e11 : m1 122 1 = mem 122 1 := by rw [f1 122 (by omega)]; exact e1
      -- the door goes again
      have back : ∀ (m2 : zMem), fFr m1 m2 → ∀ m3 : zMem, m3 = zup m2 123 56 (zsub (m2 123 56) 1) → gNw (mem 123) (m3 123) ∧ fFm mem m3 ∧ m3 122 34 = mem 122 34 ∧ m3 122 35 = mem 122 35 := by
        intro m2 f2 m3 f3
        have e2 : m2 123 = gAdd (m 123) ((k / 10 : Nat) : Int) ((k % 10 : Nat) : Int) 0 := by rw [f2.pg, g1]
        have e256 : m2 123 56 = gN (mem 123) + 1 := by
          rw [f2.pg]
          show gN (m1 123) = _
          rw [hqa.1, hN2]
        rw [e256, zs (by omega)] at f3
        refine ⟨gNw_back (g' := m 123) (p := m2 123) ⟨hn.1, c2⟩ hg (by rw [e2]; exact gNw.refl) (by rw [f3, zup_e]; omega) (fun i hi => by rw [f3, zup_j hi]), ⟨fun c c1 c2 c3 => ?_, fun j j1 j2 j3 => ?_⟩, ?_, ?_⟩
        · have : m3 c = m2 c := by funext j; rw [f3, zup_k c2]
          rw [this, f2.1 c c1 c3, f1 c c2, hf.1 c c1 c2 c3]
        · rw [f3, zup_k (by omega), f2.2 j j1, f1 122 (by omega), hf.2 j j1 j2 j3]
        · rw [f3, zup_k (by omega), f2.2 34 (by omega), f1 122 (by omega), h34]
        · rw [f3, zup_k (by omega), f2.2 35 (by omega), f1 122 (by omega), h35]
      refine c_Mo_isSafe (d := d) (rm := mem 122 1) hD1 (gQ.rr hqa (gA2_rr hD c2 hrr hp)) (fun m2 f2 hs m3 f3 => ⟨fun q => absurd q (by decide), fun _ => ?_⟩) (fun m2 f2 hs m3 f3 => ⟨fun _ => ?_, fun q => absurd rfl q⟩)
      · obtain ⟨b1, b2, b3, b4⟩ := back m2 f2 m3 f3
        have hs1 : gS1 (mem 123) (mem 122 1) k := ⟨hp, hsf.mp hs⟩
        refine ⟨fun z m5 f5 => ⟨fun _ m6 f6 => ?_, fun q => absurd z q⟩, fun z m8 f8 => ⟨fun q => absurd q z, fun _ m10 f10 => ?_⟩⟩
        · refine hQ1 c2 m6 k hs1 (hno c2) ?_ (b2.trans ⟨fun c c1 c2 c3 => ?_, fun j j1 j2 j3 => ?_⟩) (fun _ => ⟨?_, ?_⟩) (fun q => absurd z q)
          · rw [show m6 123 = m3 123 by funext j; rw [f6, zup_k (by omega), f5, zup_k (by omega)]]; exact b1
          · funext j; rw [f6, zup_k c1, f5, zup_k c1]
          · rw [f6, zup_j j3, f5, zup_j j2]
          · rw [f6, zup_j (by omega), f5, zup_e]
          · rw [f6, zup_e]
        · refine hQ1 c2 m10 k hs1 (hno c2) ?_ (b2.trans ⟨fun c c1 c2 c3 => ?_, fun j j1 j2 j3 => ?_⟩) (fun q => absurd q z) (fun _ => ?_)
          · rw [show m10 123 = m3 123 by funext j; rw [f10, zup_k (by omega), f8, zup_k (by omega)]]; exact b1
          · funext j; rw [f10, zup_k c1, f8, zup_k c1]
          · rw [f10, zup_j j3, f8, zup_j j2]
          · rw [f10, zup_e]
      · obtain ⟨b1, b2, b3, b4⟩ := back m2 f2 m3 f3
        exact nx (fun q => hs (hsf.mpr q.2)) m3 b1 b2 b3 b4
  exact v_Mo_mendsOne (loop 100 0 mem (by omega) (fun _ j hj => by omega) gNw.refl fFm.refl rfl rfl)
theorem c_Mo_layMend (hD : gDo (mem 123)) (hrr : ∀ k : Nat, (k : Int) < gN (mem 123) → gA (mem 123) k < mem 122 1 ∧ gB (mem 123) k < mem 122 1) (hrm : 0 < mem 122 1 ∧ mem 122 1 ≤ 10)
    (hQ : ∀ (m' : zMem) (n : Int), gMd (mem 123) (mem 122 1) n (m' 122 34) (m' 122 35) → gNw (mem 123) (m' 123) → fFm mem m' → Q n m') : zC (d + 7) K_Mo_layMend [(2, Int.ofNat 122)] mem Q := by
  have hn := hD.1
  refine v_Mo_layMend fun m1 f1 m2 f2 => ?_
  have a34 : m2 122 34 = -4 := by rw [f2, zup_j (by omega), f1, zup_e]
  have a35 : m2 122 35 = -4 := by rw [f2, zup_e]
  have e3 : m2 123 = mem 123 := by funext j; rw [f2, zup_k (by omega), f1, zup_k (by omega)]
  have hf2 : fFm mem m2 := ⟨fun c c1 c2 c3 => by funext j; rw [f2, zup_k c1, f1, zup_k c1], fun j j1 j2 j3 => by rw [f2, zup_j j3, f1, zup_j j2]⟩
  have e21 : m2 122 1 = mem 122 1 := hf2.2 1 (by omega) (by omega) (by omega)
  refine c_Mo_isSafe (d := d + 1) (rm := mem 122 1) (by rw [e3]; exact hD) (by rw [e3]; exact hrr) (fun m3 f3 hs => ⟨fun q => absurd q (by decide), fun _ => ?_⟩) (fun m3 f3 hs => ⟨fun _ => ?_, fun q => absurd rfl q⟩)
  · rw [e3] at hs
    refine hQ m3 0 (Or.inl ⟨hs, rfl, ?_, ?_⟩) ?_ (hf2.trans f3.fm)
    · rw [f3.2 34 (by omega), a34]
    · rw [f3.2 35 (by omega), a35]
    · rw [f3.pg, e3]; exact gNw.refl
  · rw [e3] at hs
    have e33 : m3 123 = mem 123 := by rw [f3.pg, e3]
    have e31 : m3 122 1 = mem 122 1 := by rw [f3.2 1 (by omega), e21]
    have b34 : m3 122 34 = -4 := by rw [f3.2 34 (by omega), a34]
    have b35 : m3 122 35 = -4 := by rw [f3.2 35 (by omega), a35]
    have hf3 : fFm mem m3 := hf2.trans f3.fm
    refine c_Mo_mendsOne (d := d) (x := 0) (by rw [e33]; exact hD) (by rw [e33, e31]; exact hrr) (by rw [e31]; exact hrm) (fun hN m4 k hs1 hmin hg4 hf4 h0 _ => ⟨fun q => absurd q (by decide), fun _ => ?_⟩) (fun m4 hno hg4 hf4 h34 h35 => ⟨fun _ => ?_, fun q => absurd rfl q⟩)
    · rw [e33, e31] at hs1 hmin
      rw [e33] at hg4 hN
      obtain ⟨y1, y2⟩ := h0 rfl
      exact hQ m4 1 (Or.inr (Or.inl ⟨hs, hN, rfl, y2, k, y1, hs1, hmin⟩)) hg4 (hf3.trans hf4)
    · rw [e33] at hg4
      rw [e33, e31] at hno
      rw [b34] at h34
      rw [b35] at h35
      have loop : ∀ (n k : Nat) (m : zMem), k + n = 100 → (gN (mem 123) + 1 < 14 → ∀ j, j < k → ∀ y, ¬ gS2 (mem 123) (mem 122 1) j y) → gNw (mem 123) (m 123) → fFm mem m → m 122 34 = -4 → m 122 35 = -4 → zG (d + 7) M_Mo_layMend 33 [(2, Int.ofNat 122), (0, (k : Int)), (9, 0)] [] m Q := by
        intro n
        induction n with
        | zero =>
          intro k m hk hno2 hg hf h34 h35
          refine v_Mo_layMend_33 ⟨fun c => hQ m (-4) (Or.inr (Or.inr (Or.inr ⟨hs, hno, fun z j y q => ?_, rfl, h34, h35⟩))) hg hf, fun c => by omega⟩
          exact hno2 z j (by have := q.1.1; omega) y q
        | succ n ih =>
          intro k m hk hno2 hg hf h34 h35
          have e56 : m 123 56 = gN (mem 123) := (hg.q hn).1
          have e1 : m 122 1 = mem 122 1 := hf.2 1 (by omega) (by omega) (by omega)
          refine v_Mo_layMend_33 ⟨fun c => by omega, fun c => c_Mo_doorMany (d := d + 5) ?_⟩
          rw [e56]
          refine ⟨fun c2 => hQ m (-4) (Or.inr (Or.inr (Or.inr ⟨hs, hno, fun z => by omega, rfl, h34, h35⟩))) hg hf, fun c2 => ?_⟩
          rw [zd (by omega) (by omega), zr (by omega) (by omega), e1]
          have nx : (gN (mem 123) + 1 < 14 → ∀ y, ¬ gS2 (mem 123) (mem 122 1) k y) → ∀ m1 : zMem, gNw (mem 123) (m1 123) → fFm mem m1 → m1 122 34 = -4 → m1 122 35 = -4 → ∀ x2 : Int, x2 = zadd (k : Int) 1 → zG (d + 7) M_Mo_layMend 33 [(2, Int.ofNat 122), (0, x2), (9, 0)] [] m1 Q := by
            intro hnk m1 hg1 hf1 a34 a35 x2 e2
            rw [za (by omega)] at e2
            rw [e2]
            refine ih (k + 1) m1 (by omega) (fun z j hj => ?_) hg1 hf1 a34 a35
            by_cases e : j = k
            · rw [e]; exact hnk z
            · exact hno2 z j (by omega)
          refine ⟨fun c3 => nx (fun _ y q => by have := q.1.2.1; omega) m hg hf h34 h35, fun c3 => ⟨fun c4 => nx (fun _ y q => by have := q.1.2.2; omega) m hg hf h34 h35, fun c4 => ?_⟩⟩
          have hp : gVp (mem 122 1) k := ⟨by omega, by omega, by omega⟩
          have e10 : (k : Int) / 10 = ((k / 10 : Nat) : Int) := by omega
          have e1' : (k : Int) % 10 = ((k % 10 : Nat) : Int) := by omega
          rw [e10, e1']
          have hq := hg.q hn
          refine c_Mo_addDoor (d := d + 4) (by rw [hq.1]; exact ⟨hn.1, c2⟩) (fun m1 g1 f1 => ?_)
          have hqa : gQ (gA2 (mem 123) k) (m1 123) := by rw [g1]; exact hq.add ⟨hn.1, c2⟩
          have hN2 : gN (gA2 (mem 123) k) = gN (mem 123) + 1 := gA2_N ⟨hn.1, c2⟩
          have hD1 : gDo (m1 123) := gDo.q hqa (gA2_Do hD c2 hrm.2 hp)
          have e11 : m1 122 1 = mem 122 1 := by rw [f1 122 (by omega)]; exact e1
          have hs2 : gN (m1 123) < 14 → ∀ y, gS1 (m1 123) (mem 122 1) y ↔ gS2 (mem 123) (mem 122 1) k y := by
            intro z y
            rw [hqa.1] at z
            have h1 : gSf (gA2 (m1 123) y) (mem 122 1) ↔ gSf (gA2 (gA2 (mem 123) k) y) (mem 122 1) := gSf.q (hqa.add ⟨by omega, z⟩) (by
              have : gN (gA2 (gA2 (mem 123) k) y) = gN (gA2 (mem 123) k) + 1 := gA2_N ⟨by omega, z⟩
              show gN (gA2 (gA2 (mem 123) k) y) ≤ 14
              omega)
            constructor
            · rintro ⟨q1, q2⟩; exact ⟨hp, q1, h1.mp q2⟩
            · rintro ⟨-, q1, q2⟩; exact ⟨q1, h1.mpr q2⟩
          have hNe : gN (m1 123) = gN (mem 123) + 1 := by rw [hqa.1, hN2]
          have back : ∀ (m2 : zMem), gNw (m1 123) (m2 123) → fFm m1 m2 → ∀ m3 : zMem, m3 = zup m2 123 56 (zsub (m2 123 56) 1) → gNw (mem 123) (m3 123) ∧ fFm mem m3 := by
            intro m2 hg2 f2 m3 f3
            have e256 : m2 123 56 = gN (mem 123) + 1 := by
              have : gN (m2 123) = gN (m1 123) := (hg2.q hD1.1).1
              show gN (m2 123) = _
              rw [this, hNe]
            rw [e256, zs (by omega)] at f3
            refine ⟨gNw_back (g' := m 123) (p := m2 123) ⟨hn.1, c2⟩ hg (by rw [← g1]; exact hg2) (by rw [f3, zup_e]; omega) (fun i hi => by rw [f3, zup_j hi]), ⟨fun c c1 c2 c3 => ?_, fun j j1 j2 j3 => ?_⟩⟩
            · have : m3 c = m2 c := by funext j; rw [f3, zup_k c2]
              rw [this, f2.1 c c1 c2 c3, f1 c c2, hf.1 c c1 c2 c3]
            · rw [f3, zup_k (by omega), f2.2 j j1 j2 j3, f1 122 (by omega), hf.2 j j1 j2 j3]
          refine c_Mo_mendsOne (d := d) (x := 1) hD1 (by rw [e11]; exact gQ.rr hqa (gA2_rr hD c2 hrr hp)) (by rw [e11]; exact hrm) (fun hN m4 y hs1 hmin hg4 hf4 _ h1 m5 f5 => ⟨fun q => absurd q (by decide), fun _ m6 f6 => ?_⟩) (fun m4 hno4 hg4 hf4 h34' h35' m5 f5 => ⟨fun _ => ?_, fun q => absurd rfl q⟩)
          · rw [e11] at hs1 hmin
            obtain ⟨b1, b2⟩ := back m4 hg4 hf4 m5 f5
            have hNN : gN (mem 123) + 1 < 14 := by omega
            refine hQ m6 2 (Or.inr (Or.inr (Or.inl ⟨hs, hno, hNN, rfl, k, y, ?_, ?_, (hs2 hN y).mp hs1, hno2 hNN, fun z hz q => hmin z hz ((hs2 hN z).mpr q)⟩))) ?_ (b2.trans ⟨fun c c1 c2 c3 => by funext j; rw [f6, zup_k c1], fun j j1 j2 j3 => by rw [f6, zup_j j2]⟩)
            · rw [f6, zup_e]
            · rw [f6, zup_j (by omega), f5, zup_k (by omega)]; exact h1 (by decide)
            · rw [show m6 123 = m5 123 by funext j; rw [f6, zup_k (by omega)]]; exact b1
          · rw [e11] at hno4
            obtain ⟨b1, b2⟩ := back m4 hg4 hf4 m5 f5
            refine nx (fun z y q => hno4 (by omega) y ((hs2 (by omega) y).mpr q)) m5 b1 b2 ?_ ?_
            · rw [f5, zup_k (by omega), h34', f1 122 (by omega), h34]
            · rw [f5, zup_k (by omega), h35', f1 122 (by omega), h35]
      exact loop 100 0 m4 (by omega) (fun _ j hj => by omega) hg4 (hf3.trans hf4) h34 h35
theorem T_mend {a : Int} (hI : Inv mem) (hR : ∀ m', Inv m' → R m') : zC (d + 8) K_Od_mend [(2, Int.ofNat 0), (0, a)] mem (fun r1 m1 => zC (d + 8) K_Mo_mend [(2, Int.ofNat 122), (0, a)] m1 (fun r2 m2 => (r1 = r2 → R m2) ∧ (r1 ≠ r2 → S m2))) := by
  obtain ⟨⟨w1, w2, w3, w4⟩, hP⟩ := id hI.1
  have hn := w1.1
  have same : ∀ x : Int, (x = x → R mem) ∧ (x ≠ x → S mem) := fun x => ⟨fun _ => hR mem hI, fun q => absurd rfl q⟩
  have bad : ¬ (0 ≤ a ∧ a ≤ 2) → zC (d + 8) K_Mo_mend [(2, Int.ofNat 122), (0, a)] mem (fun r2 m2 => (-1 = r2 → R m2) ∧ (-1 ≠ r2 → S m2)) := fun h => v_Mo_mend (c_Mo_in (d := d + 6) (fun q => absurd q h) (fun _ => ⟨fun q => absurd rfl q, fun _ => same _⟩))
  refine v_Od_mend ⟨fun c => bad (by omega), fun c => ⟨fun c1 => ?_, fun c1 => bad (by omega)⟩⟩
  refine c_Bu_seekMend (d := d) w1 w3 w2 hP.1 (fun m1 n f s hmd h0 h1 hn2 hH1 hf1 => ?_)
  have e3 : m1 123 = mem 123 := hf1 123 (by omega) (by omega)
  have e22 : m1 122 = mem 122 := hf1 122 (by omega) (by omega)
  have ref : ∀ v : Int, (a = 0 → v = n) → (a = 1 → v = f) → (a = 2 → v = s) → zC (d + 8) K_Mo_mend [(2, Int.ofNat 122), (0, a)] m1 (fun r2 m2 => (v = r2 → R m2) ∧ (v ≠ r2 → S m2)) := by
    intro v v0 v1 v2
    refine v_Mo_mend (c_Mo_in (d := d + 6) (fun _ => ⟨fun _ => ?_, fun q => absurd q (by decide)⟩) (fun q => absurd ⟨c, c1⟩ q))
    refine c_Mo_layMend (d := d) (by rw [e3]; exact w1) (by rw [e3, e22]; exact w3) (by rw [e22]; exact w2) (fun m2 n' hmd' hg hf2 => ?_)
    rw [e3, e22] at hmd'
    rw [e3] at hg
    obtain ⟨q0, q1, q2⟩ := gMd_fn hmd hmd'
    have hIn : Inv m2 := by
      refine hI.fr (hI.1.nearw ?_ ?_ (fun k k1 k2 => ?_) hg ?_) ?_ (fun j hj => ?_) (fun i hi => hg i (by omega)) (fun k k1 k2 => ?_) (fun k k1 k2 => ?_) (fun k k1 k2 => ?_)
      · exact hH1.fr (fun k k1 k2 => hf2.1 k (by omega) (by omega) (by omega))
      · rw [hf2.1 1 (by omega) (by omega) (by omega), hf1 1 (by omega) (by omega)]
      · rw [hf2.1 k (by omega) (by omega) (by omega), hf1 k (by omega) (by omega)]
      · rw [hf2.2 1 (by omega) (by omega) (by omega), e22]
      · rw [hf2.1 0 (by omega) (by omega) (by omega), hf1 0 (by omega) (by omega)]
      · rw [hf2.2 j (by omega) (by omega) (by omega), e22]
      · rw [hf2.1 k (by omega) (by omega) (by omega), hf1 k (by omega) (by omega)]
      · rw [hf2.1 k (by omega) (by omega) (by omega), hf1 k (by omega) (by omega)]
      · rw [hf2.1 k (by omega) (by omega) (by omega), hf1 k (by omega) (by omega)]
    refine ⟨fun z => ⟨fun z1 => ⟨fun _ => hR m2 hIn, fun q => absurd ?_ q⟩, fun z1 => ⟨fun _ => hR m2 hIn, fun q => absurd ?_ q⟩⟩, fun z => ⟨fun _ => hR m2 hIn, fun q => absurd ?_ q⟩⟩
    · rw [v2 (by omega), q2]
    · rw [v1 z1, q1]
    · rw [v0 z, q0]
  have cs : n ≤ 0 → f = -4 ∧ s = -4 := by
    intro z
    rcases hmd with ⟨-, -, y1, y2⟩ | ⟨-, -, y, -⟩ | ⟨-, -, -, y, -⟩ | ⟨-, -, -, -, y1, y2⟩
    · exact ⟨y1, y2⟩
    · omega
    · omega
    · exact ⟨y1, y2⟩
  have c1s : n = 1 → s = -4 := by
    intro z
    rcases hmd with ⟨-, y, -⟩ | ⟨-, -, -, y, -⟩ | ⟨-, -, -, y, -⟩ | ⟨-, -, -, y, -⟩
    · omega
    · exact y
    · omega
    · omega
  rw [zs (by omega)]
  refine ⟨fun z => ⟨fun z1 => ref _ (by omega) (fun q => ?_) (fun q => ?_), fun z1 => ⟨by omega, ref _ (by omega) (fun q => ?_) (fun q => ?_)⟩⟩, fun z => ref _ (fun _ => rfl) (by omega) (by omega)⟩
  · have := cs (by omega); omega
  · rcases (show n ≤ 0 ∨ n = 1 by omega) with y | y
    · have := cs y; omega
    · have := c1s y; omega
  · rw [show (a - 1).toNat = 0 by omega]; exact h0 (by omega)
  · rw [show (a - 1).toNat = 1 by omega]; exact h1 (by omega)
end
