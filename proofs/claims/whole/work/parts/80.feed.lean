section
variable {d w : Nat} {mem m m' m2 : zMem} {Q : Int → zMem → Prop} {R S : zMem → Prop} {g g' : zPg} {b : zBf} {rm pl r t u p : Int} {k s : Nat}
theorem zl2i_w {x : Int} (h : zJ x) : zl2i x = w32 x := by
  unfold zl2i
  rw [Int64.toInt_toInt32, zJ_to h]
  exact w32_bmod x
theorem zlshr_n {x : Int} (hx : zJ x) {e : Nat} (he : e < 64) : zlshr x (e : Int) = x / 2 ^ e := by
  unfold zlshr
  have hs : ∀ e, e < 64 → (((Int32.ofInt (Int.ofNat e)).toInt64 &&& 63).toBitVec.smod 64).toNat = e := by decide +kernel
  have h1 := hs e he
  show ((Int64.ofInt x).toBitVec.sshiftRight' (((Int32.ofInt (Int.ofNat e)).toInt64 &&& 63).toBitVec.smod 64)).toInt = _
  rw [BitVec.toInt_sshiftRight', h1]
  show (Int64.ofInt x).toInt >>> e = _
  rw [zJ_to hx, Int.shiftRight_eq_div_pow]
  simp
theorem zlushr_n {x : Int} (hx : zJ x) {e : Nat} (he : e < 64) : zlushr x (e : Int) = w64 (x % 18446744073709551616 / 2 ^ e) := by
  unfold zlushr
  have hs : ∀ e, e < 64 → (((Int32.ofInt (Int.ofNat e)).toInt64.toUInt64 &&& Int64.toUInt64 63).toBitVec % 64).toNat = e := by decide +kernel
  have h1 := hs e he
  show ((Int64.ofInt x).toBitVec >>> (((Int32.ofInt (Int.ofNat e)).toInt64.toUInt64 &&& Int64.toUInt64 63).toBitVec % 64)).toInt = _
  rw [BitVec.toInt_eq_toNat_bmod, BitVec.ushiftRight_eq', BitVec.toNat_ushiftRight, h1, Nat.shiftRight_eq_div_pow, show (2 ^ 64 : Nat) = 18446744073709551616 from rfl, w64_bmod, show (Int64.ofInt x).toBitVec = BitVec.ofInt 64 x from rfl, BitVec.toNat_ofInt]
  congr 1
  rw [Int.natCast_ediv]
  have : ((x % ((2 ^ 64 : Nat) : Int)).toNat : Int) = x % 18446744073709551616 := by
    rw [show ((2 ^ 64 : Nat) : Int) = 18446744073709551616 from rfl]
    omega
  rw [this]
  simp
theorem zlushr_J (x s : Int) : zJ (zlushr x s) := zJ_of _
theorem zlshr_J (x s : Int) : zJ (zlshr x s) := zJ_of _
theorem zand255 {x : Int} (hx : zI x) : zand x 255 = x % 256 := by
  unfold zand
  have h := pk_and (Int32.ofInt x) (m := 255) 8 (by decide)
  rw [show Int32.ofInt 255 = 255 by decide, h, nI_toInt (by omega), show (Int32.ofInt x).toBitVec = BitVec.ofInt 32 x from rfl, BitVec.toNat_ofInt]
  omega
theorem feed_byte {x : Int} (hx : zJ x) {j : Nat} (hj : j < 8) : zand (zl2i (zlshr x (56 - 8 * (j : Int)))) 255 = zi2b (zl2i (zlushr x (56 - 8 * (j : Int)))) % 256 := by
  have e : (56 - 8 * (j : Int)) = ((56 - 8 * j : Nat) : Int) := by omega
  rw [e, zand255 (by unfold zl2i; exact zI_of _), zi2b_w, zl2i_w (zlshr_J _ _), zl2i_w (zlushr_J _ _), zlshr_n hx (by omega), zlushr_n hx (by omega)]
  unfold zJ at hx
  have : j = 0 ∨ j = 1 ∨ j = 2 ∨ j = 3 ∨ j = 4 ∨ j = 5 ∨ j = 6 ∨ j = 7 := by omega
  unfold w32 w64
  rcases this with rfl | rfl | rfl | rfl | rfl | rfl | rfl | rfl
  · rw [show (2 : Int) ^ (56 - 8 * 0) = 72057594037927936 by decide]
    omega
  · rw [show (2 : Int) ^ (56 - 8 * 1) = 281474976710656 by decide]
    omega
  · rw [show (2 : Int) ^ (56 - 8 * 2) = 1099511627776 by decide]
    omega
  · rw [show (2 : Int) ^ (56 - 8 * 3) = 4294967296 by decide]
    omega
  · rw [show (2 : Int) ^ (56 - 8 * 4) = 16777216 by decide]
    omega
  · rw [show (2 : Int) ^ (56 - 8 * 5) = 65536 by decide]
    omega
  · rw [show (2 : Int) ^ (56 - 8 * 6) = 256 by decide]
    omega
  · rw [show (2 : Int) ^ (56 - 8 * 7) = 1 by decide]
    omega
theorem T_feed {v : Int} (hI : Inv mem) (hR : ∀ m', Inv m' → R m') : zC (d + 2) K_Od_feed [(2, Int.ofNat 0), (1, v)] mem (fun r1 m1 => zC (d + 2) K_Mo_feed [(2, Int.ofNat 122), (1, v)] m1 (fun r2 m2 => (r1 = r2 → R m2) ∧ (r1 ≠ r2 → S m2))) := by
  refine zC.rg fun hav _ => ?_
  have hv : zJ v := zoh (zot hav)
  obtain ⟨t1, t2, t3, t4, t5⟩ := hI.2.2.2
  refine v_Od_feed (v_Ta_append ?_)
  rw [za (by omega)]
  refine ⟨fun c => ?_, fun c => ⟨fun _ => v_Mo_feed ?_, fun q => absurd rfl q⟩⟩
  · -- the class
    have cl : ∀ (n i : Nat) (m : zMem) (Q : Int → zMem → Prop), i + n = 8 → m 53 2 = mem 53 2 + i → (∀ j, j < i → m 54 ((mem 53 2).toNat + j) = zi2b (zl2i (zlushr v (56 - 8 * (j : Int))))) → (∀ x, x < (mem 53 2).toNat → m 54 x = mem 54 x) → (∀ k, k ≠ 53 → k ≠ 54 → m k = mem k) → (∀ j, j ≠ 2 → m 53 j = mem 53 j) → (∀ m' : zMem, m' 53 2 = mem 53 2 + 8 → (∀ j, j < 8 → m' 54 ((mem 53 2).toNat + j) = zi2b (zl2i (zlushr v (56 - 8 * (j : Int))))) → (∀ x, x < (mem 53 2).toNat → m' 54 x = mem 54 x) → (∀ k, k ≠ 53 → k ≠ 54 → m' k = mem k) → (∀ j, j ≠ 2 → m' 53 j = mem 53 j) → Q 1 m') → zG (d + 1) M_Ta_append 18 [(2, Int.ofNat 53), (1, v), (9, 0), (0, 56 - 8 * (i : Int))] [] m Q := by
      intro n
      induction n with
      | zero =>
        intro i m Q hi h1 h2 h3 h4 h5 hQ
        refine v_Ta_append_18 ⟨fun _ => hQ m ?_ (fun j hj => h2 j (by omega)) h3 h4 h5, fun q => by omega⟩
        rw [h1, show i = 8 by omega]; rfl
      | succ n ih =>
        intro i m Q hi h1 h2 h3 h4 h5 hQ
        refine v_Ta_append_18 ⟨fun q => by omega, fun q => ?_⟩
        rw [h1]
        have hb : -128 ≤ zi2b (zl2i (zlushr v (56 - 8 * (i : Int)))) ∧ zi2b (zl2i (zlushr v (56 - 8 * (i : Int)))) < 128 := by rw [zi2b_w]; omega
        refine ⟨hb, by omega, fun m1 f1 m2 f2 x1 e1 => ?_⟩
        rw [za (by omega)] at e1
        have g1 : m1 53 2 = mem 53 2 + i := by rw [f1, zup_k (by omega), h1]
        rw [g1, za (by omega)] at f2
        rw [e1, show (56 - 8 * (i : Int) + -8) = 56 - 8 * ((i + 1 : Nat) : Int) by omega]
        have ei : (mem 53 2 + (i : Int)).toNat = (mem 53 2).toNat + i := by omega
        rw [ei] at f1
        refine ih (i + 1) m2 Q (by omega) (by rw [f2, zup_e]; omega) (fun j hj => ?_) (fun x hx => ?_) (fun k k1 k2 => ?_) (fun j hj => ?_) hQ
        · rw [f2, zup_k (by omega), f1, zup_at]
          by_cases e : j = i
          · rw [if_pos ⟨rfl, by omega⟩, e]
          · rw [if_neg (by omega)]
            exact h2 j (by omega)
        · rw [f2, zup_k (by omega), f1, zup_j (by omega), h3 x hx]
        · funext j; rw [f2, zup_k k1, f1, zup_k k2, h4 k k1 k2]
        · rw [f2, zup_j hj, f1, zup_k (by omega), h5 j hj]
    have := cl 8 0 mem (fun r1 m1 => ((r1 = 0 → zC (d + 2) K_Mo_feed [(2, Int.ofNat 122), (1, v)] m1 (fun r2 m2 => (-3 = r2 → R m2) ∧ (-3 ≠ r2 → S m2))) ∧ (r1 ≠ 0 → zC (d + 2) K_Mo_feed [(2, Int.ofNat 122), (1, v)] m1 (fun r2 m2 => (m1 53 2 = r2 → R m2) ∧ (m1 53 2 ≠ r2 → S m2))))) (by omega) (by omega) (fun j hj => by omega) (fun _ _ => rfl) (fun _ _ _ => rfl) (fun _ _ => rfl) (fun m1 a1 a2 a3 a4 a5 => ⟨fun q => absurd q (by decide), fun _ => ?_⟩)
    · exact this
    · have q22 : m1 122 = mem 122 := a4 122 (by omega) (by omega)
      refine v_Mo_feed ?_
      rw [q22, ← t1, za (by omega)]
      refine ⟨fun _ => ?_, fun q => by omega⟩
      have rl : ∀ (n i : Nat) (m : zMem), i + n = 8 → m 122 10 = mem 53 2 + i → (∀ j, j < i → m 125 ((mem 53 2).toNat + j) = zand (zl2i (zlshr v (56 - 8 * (j : Int)))) 255) → (∀ x, x < (mem 53 2).toNat → m 125 x = m1 125 x) → (∀ k, k ≠ 122 → k ≠ 125 → m k = m1 k) → (∀ j, j ≠ 10 → m 122 j = m1 122 j) → zG (d + 2) M_Mo_feed 19 [(2, Int.ofNat 122), (1, v), (9, 0), (0, 56 - 8 * (i : Int))] [] m (fun r2 m2 => (m1 53 2 = r2 → R m2) ∧ (m1 53 2 ≠ r2 → S m2)) := by
        intro n
        induction n with
        | zero =>
          intro i m hi h1 h2 h3 h4 h5
          refine v_Mo_feed_19 ⟨fun _ => ⟨fun _ => hR m ?_, fun q => absurd ?_ q⟩, fun q => by omega⟩
          · have hf : ∀ k, k ≠ 53 → k ≠ 54 → k ≠ 122 → k ≠ 125 → m k = mem k := fun k k1 k2 k3 k4 => by rw [h4 k k3 k4, a4 k k1 k2]
            have hr : ∀ j, j ≠ 10 → m 122 j = mem 122 j := fun j hj => by rw [h5 j hj, q22]
            refine ⟨hI.1.fr (fun k k1 k2 => hf k (by omega) (by omega) (by omega) (by omega)) (fun i _ => by rw [hf 123 (by omega) (by omega) (by omega) (by omega)]) (hr 1 (by omega)), hI.2.1.fr (by rw [hf 0 (by omega) (by omega) (by omega) (by omega)]) (hr 1 (by omega)) (fun i _ => by rw [hf 123 (by omega) (by omega) (by omega) (by omega)]) (fun k k1 k2 => hf k (by omega) (by omega) (by omega) (by omega)) (hf 142 (by omega) (by omega) (by omega) (by omega)), hI.2.2.1.fr (by rw [hf 0 (by omega) (by omega) (by omega) (by omega)]) (hr 43 (by omega)) (fun k k1 k2 => hf k (by omega) (by omega) (by omega) (by omega)) (fun k k1 k2 => hf k (by omega) (by omega) (by omega) (by omega)), ?_⟩
            have m53 : m 53 = m1 53 := h4 53 (by omega) (by omega)
            have m54 : m 54 = m1 54 := h4 54 (by omega) (by omega)
            unfold Itp
            rw [m53, m54, a1, h1, a5 4 (by omega), hr 11 (by omega), hf 126 (by omega) (by omega) (by omega) (by omega), hf 127 (by omega) (by omega) (by omega) (by omega)]
            refine ⟨by omega, by omega, t3, fun x hx => ?_, t5⟩
            rcases Nat.lt_or_ge x (mem 53 2).toNat with z | z
            · rw [a3 x z, h3 x z, a4 125 (by omega) (by omega)]
              exact t4 x (by omega)
            · have hj := feed_byte hv (j := x - (mem 53 2).toNat) (by omega)
              have b1 := a2 (x - (mem 53 2).toNat) (by omega)
              have b2 := h2 (x - (mem 53 2).toNat) (by omega)
              rw [show (mem 53 2).toNat + (x - (mem 53 2).toNat) = x by omega] at b1 b2
              rw [b1, b2, hj]
              refine ⟨?_, rfl⟩
              rw [zi2b_w]
              omega
          · rw [a1, h1]; omega
        | succ n ih =>
          intro i m hi h1 h2 h3 h4 h5
          refine v_Mo_feed_19 ⟨fun q => by omega, fun q => ?_⟩
          rw [h1]
          refine ⟨by omega, fun m3 f3 m4 f4 x1 e1 => ?_⟩
          rw [za (by omega)] at e1
          have g3 : m3 122 10 = mem 53 2 + i := by rw [f3, zup_k (by omega), h1]
          rw [g3, za (by omega)] at f4
          rw [e1, show (56 - 8 * (i : Int) + -8) = 56 - 8 * ((i + 1 : Nat) : Int) by omega]
          have ei : (mem 53 2 + (i : Int)).toNat = (mem 53 2).toNat + i := by omega
          rw [ei] at f3
          refine ih (i + 1) m4 (by omega) (by rw [f4, zup_e]; omega) (fun j hj => ?_) (fun x hx => ?_) (fun k k1 k2 => ?_) (fun j hj => ?_)
          · rw [f4, zup_k (by omega), f3, zup_at]
            by_cases e : j = i
            · rw [if_pos ⟨rfl, by omega⟩, e]
            · rw [if_neg (by omega)]
              exact h2 j (by omega)
          · rw [f4, zup_k (by omega), f3, zup_j (by omega), h3 x hx]
          · funext j; rw [f4, zup_k k1, f3, zup_k k2, h4 k k1 k2]
          · rw [f4, zup_j hj, f3, zup_k (by omega), h5 j hj]
      exact rl 8 0 m1 (by omega) (by rw [q22]; omega) (fun j hj => by omega) (fun _ _ => rfl) (fun _ _ _ => rfl) (fun _ _ => rfl)
  · rw [← t1, za (by omega)]
    exact ⟨fun q => by omega, fun _ => ⟨fun _ => hR mem hI, fun q => absurd rfl q⟩⟩
end
