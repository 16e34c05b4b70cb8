section
variable {d w : Nat} {mem m m' m2 : zMem} {Q : Int → zMem → Prop} {R S : zMem → Prop} {g : zPg} {b : zBf} {rm pl r t u p : Int} {k s : Nat}
/-- pairs of rooms with a way -/
noncomputable def gPr (g : zPg) (rm : Int) : Int := zsum (fun a => zct (fun r => rch g a r) rm.toNat + -1) rm.toNat
theorem gPr_sw : zsum (fun r => zct (fun a => rch g (a : Nat) (r : Nat)) k + -1) k = zsum (fun a => zct (fun r => rch g (a : Nat) (r : Nat)) k + -1) k := by
  rw [zsum_add (fun r => zct (fun a => rch g (a : Nat) (r : Nat)) k) (fun _ => -1), zsum_add (fun a => zct (fun r => rch g (a : Nat) (r : Nat)) k) (fun _ => -1)]
  have := zsum_swap (fun a r => rch g (a : Nat) (r : Nat)) k k
  rw [this]
theorem zsum_lo {f : Nat → Int} : ∀ n, (∀ k, k < n → -1 ≤ f k ∧ f k ≤ 13) → -(n : Int) ≤ zsum f n ∧ zsum f n ≤ 13 * n
  | 0, _ => by show -(0 : Int) ≤ 0 ∧ (0 : Int) ≤ 13 * 0; omega
  | n + 1, h => by
    have ih := zsum_lo n (fun k hk => h k (by omega))
    have h2 := h n (by omega)
    show -((n + 1 : Nat) : Int) ≤ zsum f n + f n ∧ zsum f n + f n ≤ 13 * ((n + 1 : Nat) : Int)
    omega
theorem c_Bu_pairsOf (hD : gDo g) (hH : Hs mem 2 g rm) (hrr : ∀ k : Nat, (k : Int) < gN g → gA g k < rm ∧ gB g k < rm) (hrm : 0 < rm ∧ rm ≤ 10) (hQ : ∀ m' : zMem, (∀ c, c < 114 ∨ 117 < c → m' c = mem c) → Q (gPr g rm) m') : zC (d + 4) K_Bu_pairsOf [(2, Int.ofNat 112), (2, Int.ofNat 2)] mem Q := by
  refine v_Bu_pairsOf (c_Bu_spreadNew (d := d) hD hH hrr hrm.2 (fun m1 hs hc hf => ?_))
  have e20 : m1 2 0 = rm := by rw [hf 2 (by omega)]; exact hH.1
  have loop : ∀ (n i : Nat), i + n = rm.toNat → zG (d + 4) M_Bu_pairsOf 9 [(2, Int.ofNat 112), (2, Int.ofNat 2), (0, zsum (fun r => zct (fun a => rch g (a : Nat) (r : Nat)) rm.toNat + -1) i), (0, (i : Int))] [] m1 Q := by
    intro n
    induction n with
    | zero =>
      intro i hi
      refine v_Bu_pairsOf_9 ⟨fun c => ?_, fun c => by omega⟩
      have := hQ m1 hf
      unfold gPr at this
      rw [show i = rm.toNat by omega, gPr_sw]
      exact this
    | succ n ih =>
      intro i hi
      refine v_Bu_pairsOf_9 ⟨fun c => by omega, fun c => c_Bu_comersTo (d := d + 2) (by omega) (fun v hv hb => ?_)⟩
      have hv14 := zB_small hv (n := 14) (by omega) (fun j j1 j2 z => by
        have := ((eCl_end hD hrr hrm.2 hs hc j2 (by omega)).mp ((hb j j2).mp z)).1
        omega)
      refine c_Jd_bitCount (d := d + 2) (by omega) (fun x3 e3 x4 e4 => ?_)
      have hcnt : zpc 14 v = zct (fun a => rch g (a : Nat) (i : Nat)) rm.toNat := by
        rw [zpc_ct, zct_up (m := rm.toNat) 14 (by omega) (fun k k1 k2 z => ?_)]
        · refine zct_cg _ (fun k hk => ?_)
          rw [hb k (by omega), eCl_end hD hrr hrm.2 hs hc (by omega) (by omega)]
          exact ⟨fun q => q.2, fun q => ⟨by omega, q⟩⟩
        · have := ((eCl_end hD hrr hrm.2 hs hc (by omega) (by omega)).mp ((hb k (by omega)).mp z)).1
          omega
      have hb1 := zct_b (fun a => rch g (a : Nat) (i : Nat)) rm.toNat
      have hb2 := zsum_lo (f := fun r => zct (fun a => rch g (a : Nat) (r : Nat)) rm.toNat + -1) i (fun k _ => by
        have := zct_b (fun a => rch g (a : Nat) (k : Nat)) rm.toNat
        skip
        omega)
      rw [hcnt, zs (by omega), za (by omega)] at e3
      rw [za (by omega)] at e4
      rw [e3, e4]
      exact ih (i + 1) (by omega)
  exact loop rm.toNat 0 (by omega)
theorem l_Mo_bitsOf {a : Int} (ha : zI a) (hQ : Q (zpc 14 a) mem) : ∀ (n i : Nat), i + n = 14 → zG (d + 1) M_Mo_bitsOf 4 [(0, a), (0, zpc i a), (0, (i : Int))] [] mem Q := by
  intro n
  induction n with
  | zero =>
    intro i hi
    refine v_Mo_bitsOf_4 ⟨fun c => ?_, fun c => by omega⟩
    rw [show i = 14 by omega]
    exact hQ
  | succ n ih =>
    intro i hi
    refine v_Mo_bitsOf_4 ⟨fun c => by omega, fun c x1 e1 x2 e2 => ?_⟩
    have hb := zpc_ge a i
    rw [za (by omega)] at e2
    have : zadd (zpc i a) (zand (zshr a (i : Int)) 1) = zpc (i + 1) a := by
      show _ = zpc i a + (if zb a i = true then 1 else 0)
      by_cases q : zB a i
      · have h1 : zand (zshr a (i : Int)) 1 = 1 := (zB_test1 ha (by omega) (by omega)).mpr (by rw [Int.toNat_natCast]; exact q)
        rw [h1, if_pos (show zb a i = true from q), za (by omega)]
      · have h1 : zand (zshr a (i : Int)) 1 = 0 := (zB_test ha (by omega) (by omega)).mpr (by rw [Int.toNat_natCast]; exact q)
        rw [h1, if_neg (show ¬ zb a i = true from q), za (by omega)]
    rw [e1, e2, this]
    exact ih (i + 1) (by omega)
theorem c_Mo_bitsOf {a : Int} (hQ : Q (zpc 14 a) mem) : zC (d + 1) K_Mo_bitsOf [(0, a)] mem Q := by
  refine zC.rg fun ha _ => ?_
  exact v_Mo_bitsOf (l_Mo_bitsOf (zoh ha) hQ 14 0 (by omega))
theorem rch_lt (hD : gDo g) (hrr : ∀ k : Nat, (k : Int) < gN g → gA g k < rm ∧ gB g k < rm) {a : Int} (ha : 0 ≤ a ∧ a < rm) (hrm : rm ≤ 10) (h : rch g a r) : 0 ≤ r ∧ r < rm := by
  rcases rch_room hD (by omega) h with e | ⟨k, ho⟩
  · omega
  · obtain ⟨da, db, -⟩ := hD.2.2 k ho.1
    obtain ⟨ra, rb⟩ := hrr k ho.1
    rcases ho.2.2 with z | z <;> omega
theorem c_Mo_pairsNow (hD : gDo (mem 123)) (hrr : ∀ k : Nat, (k : Int) < gN (mem 123) → gA (mem 123) k < mem 122 1 ∧ gB (mem 123) k < mem 122 1) (hrm : 0 < mem 122 1 ∧ mem 122 1 ≤ 10) (hQ : ∀ m' : zMem, fFr mem m' → Q (gPr (mem 123) (mem 122 1)) m') : zC (d + 5) K_Mo_pairsNow [(2, Int.ofNat 122)] mem Q := by
  have loop : ∀ (n i : Nat) (m : zMem), i + n = (mem 122 1).toNat → fFr mem m → zG (d + 5) M_Mo_pairsNow 4 [(2, Int.ofNat 122), (0, zsum (fun a => zct (fun r => rch (mem 123) (a : Nat) (r : Nat)) (mem 122 1).toNat + -1) i), (0, (i : Int))] [] m Q := by
    intro n
    induction n with
    | zero =>
      intro i m hi hf
      have e1 : m 122 1 = mem 122 1 := hf.2 1 (by omega)
      refine v_Mo_pairsNow_4 ⟨fun c => ?_, fun c => by omega⟩
      rw [show i = (mem 122 1).toNat by omega]
      exact hQ m hf
    | succ n ih =>
      intro i m hi hf
      have e1 : m 122 1 = mem 122 1 := hf.2 1 (by omega)
      have e3 := hf.pg
      refine v_Mo_pairsNow_4 ⟨fun c => by omega, fun c => ?_⟩
      refine c_Mo_newRooms (d := d) (mem := m) (Q := fun r3 m3 => zC (d + 4) K_Mo_bitsOf [(0, r3)] m3 (fun r4 m4 => ∀ x5 : Int, x5 = zadd (zsum (fun a => zct (fun r => rch (mem 123) (a : Nat) (r : Nat)) (mem 122 1).toNat + -1) i) (zsub r4 1) → ∀ x6 : Int, x6 = zadd (i : Int) 1 → zG (d + 5) M_Mo_pairsNow 4 [(2, Int.ofNat 122), (0, x5), (0, x6)] [] m4 Q)) (by rw [e3]; exact hD) (by omega) (fun m3 v h1 h2 hf3 => c_Mo_bitsOf (d := d + 3) (fun x5 f5 x6 f6 => ?_))
      rw [e3] at h2
      have hcnt : zpc 14 v = zct (fun r => rch (mem 123) (i : Nat) (r : Nat)) (mem 122 1).toNat := by
        rw [zpc_ct, zct_up (m := (mem 122 1).toNat) 14 (by omega) (fun k k1 k2 z => ?_)]
        · exact zct_cg _ (fun k hk => h2 k (by omega))
        · have := rch_lt hD hrr (a := (i : Int)) (by omega) hrm.2 ((h2 k (by omega)).mp z)
          omega
      have hb1 := zct_b (fun r => rch (mem 123) (i : Nat) (r : Nat)) (mem 122 1).toNat
      have hb2 := zsum_lo (f := fun a => zct (fun r => rch (mem 123) (a : Nat) (r : Nat)) (mem 122 1).toNat + -1) i (fun k _ => by
        have := zct_b (fun r => rch (mem 123) (k : Nat) (r : Nat)) (mem 122 1).toNat
        skip
        omega)
      rw [hcnt, zs (by omega), za (by omega)] at f5
      rw [za (by omega)] at f6
      rw [f5, f6]
      exact ih (i + 1) m3 (by omega) (hf.trans hf3)
  exact v_Mo_pairsNow (loop (mem 122 1).toNat 0 mem (by omega) fFr.refl)
theorem T_pairs (hI : Inv mem) (hR : ∀ m', Inv m' → R m') : zC (d + 6) K_Od_pairs [(2, Int.ofNat 0)] mem (fun r1 m1 => zC (d + 6) K_Mo_pairs [(2, Int.ofNat 122)] m1 (fun r2 m2 => (r1 = r2 → R m2) ∧ (r1 ≠ r2 → S m2))) := by
  refine zTw (gPr (mem 123) (mem 122 1)) hI (fun Q hQ => ?_) (fun m1 hs hI1 Q hQ => ?_) hR
  · obtain ⟨⟨w1, w2, w3, w4⟩, hP⟩ := id hI.1
    exact v_Od_pairs (c_Bu_pairsOf (d := d + 1) w1 hP.1 w3 w2 (fun m' hf => hQ m' (zKp.cl (fun k hk => hf k (by omega)))))
  · obtain ⟨⟨w1, w2, w3, w4⟩, hP⟩ := id hI1.1
    have := c_Mo_pairsNow (d := d) (mem := m1) (Q := fun r m => Q r m) w1 w3 w2 (fun m' hf => by rw [hs.pg, hs.ro]; exact hQ m' hf.sc)
    exact v_Mo_pairs this
end
