section
/-! ajar: the reference's loops. -/
variable {d w : Nat} {mem m m' m2 : zMem} {Q : Int → zMem → Prop} {g : zPg} {S : Nat → Bool} {pl : Int}
def fRm (g : zPg) (r : Nat) (p : Int) : Int := if pR g p = r then 1 else 0
theorem w64_ad (a b : Int) : w64 (w64 a + b) = w64 (a + b) := by unfold w64; omega
theorem pow6 {i : Nat} (h : i ≤ 6) : (1 : Int) ≤ 14 ^ i ∧ (14 : Int) ^ i ≤ 7529536 := by
  have : i = 0 ∨ i = 1 ∨ i = 2 ∨ i = 3 ∨ i = 4 ∨ i = 5 ∨ i = 6 := by omega
  rcases this with rfl | rfl | rfl | rfl | rfl | rfl | rfl <;> decide
theorem c_Mo_addWays {n : Nat} {s sn : Int} {A : Nat → Int} (hn : n ≤ 6) (hD : gDo (mem 123)) (hp : pOK (mem 123) pl) (hsn : sn = 1 ∨ sn = -1) (hA : ∀ r, r < 10 → mem 141 r = w64 (A r)) (hs : zI s)
    (hQ : ∀ m' : zMem, (∀ r, r < 10 → m' 141 r = w64 (A r + sn * cn (mem 123) (fun k => zb s k) (fRm (mem 123) r) n f0B pl)) → aFr mem m' → Q 0 m') : zC (d + 4) K_Mo_addWays [(2, Int.ofNat 122), (0, pl), (0, (n : Int)), (0, s), (0, sn)] mem Q := by
  have hNN := hD.1
  generalize hS : (fun k => zb s k) = S at hQ
  have hSb : ∀ k, S k = true ↔ zB s k := fun k => by rw [← hS]; rfl
  -- the end: room by room
  have fin : ∀ (N : Nat → Int), aP (mem 123) S pl n n N → ∀ (c i : Nat) (m : zMem), i + c = 570 → (∀ q, q < 570 → m 139 q = N q) → (∀ r, r < 10 → m 141 r = w64 (A r + sn * zsum (fun q => N q * fRm (mem 123) r q) i)) → aFr mem m → zG (d + 4) M_Mo_addWays 205 [(2, Int.ofNat 122), (9, 0), (9, 0), (9, 0), (0, sn), (0, (i : Int)), (9, 0), (9, 0), (9, 0)] [] m Q := by
    intro N hP c
    obtain ⟨p1, p2, p3⟩ := hP
    have hNb : ∀ q, q < 570 → 0 ≤ N q ∧ N q ≤ 7529536 := fun q hq => by
      have h1 := zsum_ge1 (f := N) 570 (fun k hk => (p1 k hk).1) hq
      have h2 := (pow6 hn).2
      exact ⟨(p1 q hq).1, by omega⟩
    induction c with
    | zero =>
      intro i m hi h9 h1 hf
      refine v_Mo_addWays_205 ⟨fun _ => hQ m (fun r hr => ?_) hf, fun c => by omega⟩
      have e : zsum (fun q => N q * fRm (mem 123) r q) 570 = zsum (fun q => N q * cn (mem 123) S (fRm (mem 123) r) (n - n) f0B q) 570 := zsum_cg 570 (fun q _ => by rw [Nat.sub_self, cn_0, if_pos f0B_em])
      rw [h1 r hr, show i = 570 by omega, ← p3 (fRm (mem 123) r), e]
    | succ c ih =>
      intro i m hi h9 h1 hf
      have hb := hNb i (by omega)
      have hz : zJ (N i) := by unfold zJ; omega
      refine v_Mo_addWays_205 ⟨fun c => by omega, fun c => ⟨by omega, ?_⟩⟩
      rw [Int.toNat_natCast, h9 i (by omega), (zl_le hz).1, (zl_le hz).2.1]
      refine ⟨fun c1 x1 e1 => ?_, fun c1 => ?_⟩
      · rw [za (by omega)] at e1
        rw [e1]
        refine ih (i + 1) m (by omega) h9 (fun r hr => ?_) hf
        rw [h1 r hr, zsum_s, show N i = 0 by omega, Int.zero_mul, Int.add_zero]
      · have hok := (p1 i (by omega)).2 (by omega)
        have e3 : m 123 = mem 123 := hf 123 (by omega)
        refine c_Mo_roomAt (d := d + 2) ⟨hok.1, hok.2.1⟩ ?_
        rw [e3]
        have hr := pR_rg hD hok
        rw [h9 i (by omega)]
        refine ⟨hr, by omega, hr, fun m2 e2 x3 ex => ?_⟩
        rw [za (by omega)] at ex
        rw [ex]
        refine ih (i + 1) m2 (by omega) (fun q hq => by rw [e2, zup_k (by omega), h9 q hq]) (fun r hr' => ?_) (fun k hk => by funext j; rw [e2, zup_k (by omega), hf k hk])
        rw [e2, zup_at, zsum_s]
        by_cases e : r = (pR (mem 123) i).toNat
        · rw [if_pos ⟨rfl, e⟩, h1 _ (by omega), zladd_w, zlmul_w, ← e]
          have ef : fRm (mem 123) r i = 1 := by unfold fRm; rw [if_pos (by omega)]
          rw [ef, Int.mul_one, Int.mul_add]
          have : w64 (sn * N i) = sn * N i := w64_id (by unfold zJ; rcases hsn with q | q <;> rw [q] <;> omega)
          rw [this, w64_ad, Int.add_assoc]
        · rw [if_neg (fun q => e q.2), h1 r hr']
          have ef : fRm (mem 123) r i = 0 := by unfold fRm; rw [if_neg (by omega)]
          rw [ef, Int.mul_zero, Int.add_zero]
  -- one step more
  have copy : ∀ (N M : Nat → Int) (i : Nat), (∀ m : zMem, (∀ q, q < 570 → m 139 q = M q) → (∀ r, r < 10 → m 141 r = w64 (A r)) → aFr mem m → zG (d + 4) M_Mo_addWays 38 [(2, Int.ofNat 122), (9, 0), (0, (n : Int)), (0, s), (0, sn), (0, ((i + 1 : Nat) : Int)), (9, 0), (9, 0), (9, 0)] [] m Q) → i < n → ∀ (c j : Nat) (m : zMem), j + c = 570 → (∀ q, q < j → m 139 q = M q) → (∀ q, q < 570 → m 140 q = M q) → (∀ r, r < 10 → m 141 r = w64 (A r)) → aFr mem m → zG (d + 4) M_Mo_addWays 168 [(2, Int.ofNat 122), (9, 0), (0, (n : Int)), (0, s), (0, sn), (0, (i : Int)), (0, (j : Int)), (9, 0), (9, 0)] [] m Q := by
    intro N M i hnx hi c
    induction c with
    | zero =>
      intro j m hj h9 h0 h1 hf
      refine v_Mo_addWays_168 ⟨fun _ x1 e1 => ?_, fun c => by omega⟩
      rw [za (by omega)] at e1
      rw [e1]
      exact hnx m (fun q hq => h9 q (by omega)) h1 hf
    | succ c ih =>
      intro j m hj h9 h0 h1 hf
      refine v_Mo_addWays_168 ⟨fun c => by omega, fun _ => ⟨by omega, by omega, fun m1 e1 x2 e2 => ?_⟩⟩
      rw [za (by omega)] at e2
      rw [Int.toNat_natCast, h0 j (by omega)] at e1
      rw [e2]
      refine ih (j + 1) m1 (by omega) (fun q hq => ?_) (fun q hq => by rw [e1, zup_k (by omega), h0 q hq]) (fun r hr => by rw [e1, zup_k (by omega), h1 r hr]) (fun k hk => by funext j'; rw [e1, zup_k (by omega), hf k hk])
      rw [e1, zup_at]
      by_cases e : q = j
      · rw [if_pos ⟨rfl, e⟩, e]
      · rw [if_neg (fun z => e z.2), h9 q (by omega)]
  have spread : ∀ (N : Nat → Int) (i : Nat), aP (mem 123) S pl n i N → i < n → (∀ (M : Nat → Int) (m : zMem), aJ (mem 123) S N M 570 0 → zsum M 570 ≤ 14 * zsum N 570 → (∀ q, q < 570 → m 140 q = M q) → (∀ r, r < 10 → m 141 r = w64 (A r)) → aFr mem m → zG (d + 4) M_Mo_addWays 168 [(2, Int.ofNat 122), (9, 0), (0, (n : Int)), (0, s), (0, sn), (0, (i : Int)), (0, 0), (9, 0), (9, 0)] [] m Q) → ∀ (c j : Nat) (M : Nat → Int) (m : zMem), j + c = 570 → aJ (mem 123) S N M j 0 → (∀ q, q < 570 → m 139 q = N q) → (∀ q, q < 570 → m 140 q = M q) → (∀ r, r < 10 → m 141 r = w64 (A r)) → aFr mem m → zsum M 570 ≤ 14 * zsum N 570 → zG (d + 4) M_Mo_addWays 72 [(2, Int.ofNat 122), (9, 0), (0, (n : Int)), (0, s), (0, sn), (0, (i : Int)), (0, (j : Int)), (9, 0), (9, 0)] [] m Q := by
    intro N i hP hi hnx c
    obtain ⟨p1, p2, p3⟩ := id hP
    have h6 := (pow6 (i := i) (by omega)).2
    have hNb : ∀ q, q < 570 → 0 ≤ N q ∧ N q ≤ 7529536 := fun q hq => by
      have h1 := zsum_ge1 (f := N) 570 (fun k hk => (p1 k hk).1) hq
      exact ⟨(p1 q hq).1, by omega⟩
    induction c with
    | zero =>
      intro j M m hj hJ h9 h0 h1 hf hM
      refine v_Mo_addWays_72 ⟨fun _ => ?_, fun c => by omega⟩
      rw [show j = 570 by omega] at hJ
      exact hnx M m hJ hM h0 h1 hf
    | succ c ih =>
      intro j M m hj hJ h9 h0 h1 hf hM
      refine v_Mo_addWays_72 ⟨fun c => by omega, fun _ => ?_⟩
      have hb := hNb j (by omega)
      have hz : zJ (N j) := by unfold zJ; omega
      have inner : ∀ (e l : Nat) (M : Nat → Int) (m : zMem), (l : Int) + e = gN (mem 123) → aJ (mem 123) S N M j l → (∀ q, q < 570 → m 139 q = N q) → (∀ q, q < 570 → m 140 q = M q) → (∀ r, r < 10 → m 141 r = w64 (A r)) → aFr mem m → zG (d + 4) M_Mo_addWays 83 [(2, Int.ofNat 122), (9, 0), (0, (n : Int)), (0, s), (0, sn), (0, (i : Int)), (0, (j : Int)), (0, (l : Int)), (9, 0)] [] m Q := by
        intro e
        induction e with
        | zero =>
          intro l M m hl hJ h9 h0 h1 hf
          have e3 : m 123 = mem 123 := hf 123 (by omega)
          refine v_Mo_addWays_83 (c_Mo_doorMany ?_)
          rw [e3, show mem 123 56 = gN (mem 123) from rfl]
          refine ⟨fun _ x2 e2 => ?_, fun c => by omega⟩
          rw [za (by omega)] at e2
          rw [e2]
          exact ih (j + 1) M m (by omega) (hJ.next (Or.inr (by omega))) h9 h0 h1 hf (hJ.le hD p1 (Int.le_refl _) (by omega) (by omega)).1
        | succ e ih2 =>
          intro l M m hl hJ h9 h0 h1 hf
          have e3 : m 123 = mem 123 := hf 123 (by omega)
          have hle := hJ.le hD p1 (Int.le_refl _) (by omega) (by omega)
          refine v_Mo_addWays_83 (c_Mo_doorMany ?_)
          rw [e3, show mem 123 56 = gN (mem 123) from rfl]
          refine ⟨fun c => by omega, fun hlt => ⟨by omega, ?_⟩⟩
          rw [Int.toNat_natCast, h9 j (by omega), (zl_le hz).1, (zl_le hz).2.1]
          refine ⟨fun c1 x3 ex => ?_, fun c1 => ⟨fun c2 x4 ex => ?_, fun c2 => ?_⟩⟩
          · rw [za (by omega)] at ex
            rw [ex]
            exact ih (j + 1) M m (by omega) (hJ.next (Or.inl (by omega))) h9 h0 h1 hf hle.1
          · rw [Ne, zB_test1 hs (by omega) (by omega), Int.toNat_natCast] at c2
            rw [za (by omega)] at ex
            rw [ex]
            exact ih2 (l + 1) M m (by omega) (hJ.skip (fun z => c2 ((hSb l).mp z.1))) h9 h0 h1 hf
          · rw [zB_test1 hs (by omega) (by omega), Int.toNat_natCast] at c2
            have hok := (p1 j (by omega)).2 (by omega)
            refine c_Mo_stepped (d := d + 1) (by rw [e3]; exact hok) (by rw [e3]; exact hD) (by rw [e3]; omega) (fun c3 => ?_) (fun c3 => ?_)
            · rw [e3, Int.toNat_natCast] at c3 ⊢
              have hst := (pStep_ok hD hok c3.1.1).1
              obtain ⟨t1, t2, -⟩ := hst
              refine ⟨fun q => by omega, fun _ => ⟨⟨t1, t2⟩, by omega, ⟨t1, t2⟩, fun m3 em x7 ex => ?_⟩⟩
              rw [za (by omega)] at ex
              rw [h0 _ (by omega), h9 j (by omega), zladd_w] at em
              have hq := hle.2 (pStep (mem 123) j l).toNat (by omega)
              have hN0 := zsum_ge1 (f := N) 570 (fun k hk => (p1 k hk).1) (k := j) (by omega)
              rw [w64_id (by unfold zJ; omega)] at em
              rw [ex]
              refine ih2 (l + 1) (fun q => if q = (pStep (mem 123) j l).toNat then M q + N j else M q) m3 (by omega) (hJ.add hD p1 (by omega) (by omega) ((hSb l).mpr c2) c3 (fun q _ => rfl)) (fun q hq => by rw [em, zup_k (by omega), h9 q hq]) (fun q hq => ?_) (fun r hr => by rw [em, zup_k (by omega), h1 r hr]) (fun k hk => by funext j'; rw [em, zup_k (by omega), hf k hk])
              rw [em, zup_at]
              by_cases e : q = (pStep (mem 123) j l).toNat
              · rw [if_pos ⟨rfl, e⟩, if_pos e, e]
              · rw [if_neg (fun z => e z.2), if_neg e, h0 q hq]
            · rw [e3, Int.toNat_natCast] at c3
              refine ⟨fun _ x6 ex => ?_, fun q => absurd rfl q⟩
              rw [za (by omega)] at ex
              rw [ex]
              exact ih2 (l + 1) M m (by omega) (hJ.skip (fun z => c3 z.2)) h9 h0 h1 hf
      exact inner (gN (mem 123)).toNat 0 M m (by omega) hJ h9 h0 h1 hf
  have clear : ∀ (N : Nat → Int) (i : Nat), (∀ m : zMem, (∀ q, q < 570 → m 139 q = N q) → (∀ q, q < 570 → m 140 q = 0) → (∀ r, r < 10 → m 141 r = w64 (A r)) → aFr mem m → zG (d + 4) M_Mo_addWays 72 [(2, Int.ofNat 122), (9, 0), (0, (n : Int)), (0, s), (0, sn), (0, (i : Int)), (0, 0), (9, 0), (9, 0)] [] m Q) → ∀ (c j : Nat) (m : zMem), j + c = 570 → (∀ q, q < 570 → m 139 q = N q) → (∀ q, q < j → m 140 q = 0) → (∀ r, r < 10 → m 141 r = w64 (A r)) → aFr mem m → zG (d + 4) M_Mo_addWays 47 [(2, Int.ofNat 122), (9, 0), (0, (n : Int)), (0, s), (0, sn), (0, (i : Int)), (0, (j : Int)), (9, 0), (9, 0)] [] m Q := by
    intro N i hnx c
    induction c with
    | zero =>
      intro j m hj h9 h0 h1 hf
      exact v_Mo_addWays_47 ⟨fun _ => hnx m h9 (fun q hq => h0 q (by omega)) h1 hf, fun c => by omega⟩
    | succ c ih =>
      intro j m hj h9 h0 h1 hf
      refine v_Mo_addWays_47 ⟨fun c => by omega, fun _ => ⟨by omega, fun m1 e1 x1 ex => ?_⟩⟩
      rw [za (by omega)] at ex
      rw [Int.toNat_natCast] at e1
      rw [ex]
      refine ih (j + 1) m1 (by omega) (fun q hq => by rw [e1, zup_k (by omega), h9 q hq]) (fun q hq => ?_) (fun r hr => by rw [e1, zup_k (by omega), h1 r hr]) (fun k hk => by funext j'; rw [e1, zup_k (by omega), hf k hk])
      rw [e1, zup_at]
      by_cases e : q = j
      · rw [if_pos ⟨rfl, e⟩]
      · rw [if_neg (fun z => e z.2), h0 q (by omega)]
  have steps : ∀ (c i : Nat) (N : Nat → Int) (m : zMem), i + c = n → aP (mem 123) S pl n i N → (∀ q, q < 570 → m 139 q = N q) → (∀ r, r < 10 → m 141 r = w64 (A r)) → aFr mem m → zG (d + 4) M_Mo_addWays 38 [(2, Int.ofNat 122), (9, 0), (0, (n : Int)), (0, s), (0, sn), (0, (i : Int)), (9, 0), (9, 0), (9, 0)] [] m Q := by
    intro c
    induction c with
    | zero =>
      intro i N m hi hP h9 h1 hf
      refine v_Mo_addWays_38 ⟨fun _ => ?_, fun c => by omega⟩
      rw [show i = n by omega] at hP
      refine fin N hP 570 0 m (by omega) h9 (fun r hr => ?_) hf
      rw [h1 r hr, show zsum (fun q => N q * fRm (mem 123) r q) 0 = 0 from rfl, Int.mul_zero, Int.add_zero]
    | succ c ih =>
      intro i N m hi hP h9 h1 hf
      refine v_Mo_addWays_38 ⟨fun c => by omega, fun _ => ?_⟩
      refine clear N i (fun m' h9' h0' h1' hf' => ?_) 570 0 m (by omega) h9 (fun q hq => by omega) h1 hf
      refine spread N i hP (by omega) (fun M m2 hJ hM h0 h1 hf => ?_) 570 0 (fun _ => 0) m' (by omega) ⟨fun q _ => ⟨Int.le_refl _, fun z => absurd rfl z⟩, fun H => ?_⟩ h9' h0' h1' hf' ?_
      · exact copy N M i (fun m3 g9 g1 gf => ih (i + 1) M m3 (by omega) (hP.step hD (by omega) hJ hM) g9 g1 gf) (by omega) 570 0 m2 (by omega) (fun q hq => by omega) h0 h1 hf
      · rw [zsum_z 570 (fun q _ => Int.zero_mul _)]
        show (0 : Int) = 0 + N 0 * 0
        omega
      · rw [zsum_z 570 (fun q _ => rfl)]
        have := zsum_ge (f := N) 570 (fun k hk => (hP.1 k hk).1)
        omega
  have start : ∀ (c i : Nat) (m : zMem), i + c = 570 → (∀ q : Nat, q < i → m 139 q = if (q : Int) = pl then 1 else 0) → (∀ r, r < 10 → m 141 r = w64 (A r)) → aFr mem m → zG (d + 4) M_Mo_addWays 3 [(2, Int.ofNat 122), (0, pl), (0, (n : Int)), (0, s), (0, sn), (0, (i : Int)), (9, 0), (9, 0), (9, 0)] [] m Q := by
    intro c
    induction c with
    | zero =>
      intro i m hi h9 h1 hf
      refine v_Mo_addWays_3 ⟨fun _ => ?_, fun c => by omega⟩
      have hs1 : ∀ (H : Nat → Int), zsum (fun q => (if (q : Int) = pl then 1 else 0) * H q) 570 = H pl.toNat := by
        intro H
        have e1 : zsum (fun q : Nat => (if (q : Int) = pl then 1 else 0) * H q) 570 = zsum (fun q => if q = pl.toNat then (fun _ => (0 : Int)) q + H pl.toNat else (fun _ => (0 : Int)) q) 570 := zsum_cg 570 (fun q _ => by
          have := hp.1
          by_cases e : (q : Int) = pl
          · rw [if_pos e, if_pos (by omega), show pl.toNat = q by omega]
            show 1 * H q = 0 + H q
            omega
          · rw [if_neg e, if_neg (by omega), Int.zero_mul])
        have := hp.2.1
        rw [e1, zsum_up, if_pos (by omega), zsum_z 570 (fun q _ => rfl)]
        omega
      refine steps n 0 (fun q => if (q : Int) = pl then 1 else 0) m (by omega) ⟨fun q hq => ⟨?_, fun z => ?_⟩, ?_, fun F => ?_⟩ (fun q hq => h9 q (by omega)) h1 hf
      · show 0 ≤ if (q : Int) = pl then (1 : Int) else 0
        split <;> omega
      · have z' : (if (q : Int) = pl then (1 : Int) else 0) ≠ 0 := z
        by_cases e : (q : Int) = pl
        · rw [e]; exact hp
        · rw [if_neg e] at z'; exact absurd rfl z'
      · have := hs1 (fun _ => 1)
        have e2 : zsum (fun q : Nat => (if (q : Int) = pl then (1 : Int) else 0) * 1) 570 = zsum (fun q : Nat => if (q : Int) = pl then (1 : Int) else 0) 570 := zsum_cg 570 (fun q _ => Int.mul_one _)
        rw [e2] at this
        rw [this]
        show (1 : Int) ≤ 1
        omega
      · rw [hs1 (fun q => cn (mem 123) S F (n - 0) f0B q)]
        have := hp.1
        show cn (mem 123) S F (n - 0) f0B (pl.toNat : Int) = _
        rw [Nat.sub_zero, show ((pl.toNat : Nat) : Int) = pl by omega]
    | succ c ih =>
      intro i m hi h9 h1 hf
      have nx : ∀ (v : Int) (m1 : zMem), m1 = zup m 139 i v → v = (if (i : Int) = pl then 1 else 0) → ∀ x1 : Int, x1 = zadd i 1 → zG (d + 4) M_Mo_addWays 3 [(2, Int.ofNat 122), (0, pl), (0, (n : Int)), (0, s), (0, sn), (0, x1), (9, 0), (9, 0), (9, 0)] [] m1 Q := by
        intro v m1 e1 hv x1 ex
        rw [za (by omega)] at ex
        rw [ex]
        refine ih (i + 1) m1 (by omega) (fun q hq => ?_) (fun r hr => by rw [e1, zup_k (by omega), h1 r hr]) (fun k hk => by funext j'; rw [e1, zup_k (by omega), hf k hk])
        rw [e1, zup_at]
        by_cases e : q = i
        · rw [if_pos ⟨rfl, e⟩, hv, e]
        · rw [if_neg (fun z => e z.2), h9 q (by omega)]
      refine v_Mo_addWays_3 ⟨fun c => by omega, fun _ => ⟨fun c1 => ⟨by omega, fun m1 e1 => ?_⟩, fun c1 => ⟨by omega, fun m1 e1 => ?_⟩⟩⟩
      · rw [Int.toNat_natCast] at e1
        exact nx _ m1 e1 (by rw [if_neg c1])
      · rw [Int.toNat_natCast] at e1
        exact nx _ m1 e1 (by rw [if_pos c1])
  exact v_Mo_addWays (start 570 0 mem (by omega) (fun q hq => by omega) hA aFr.refl)
end
