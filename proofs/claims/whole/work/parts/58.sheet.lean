section
variable {d : Nat} {mem m' m2 : zMem} {Q : Int → zMem → Prop} {R S : zMem → Prop} {g g' : zPg} {rm : Int}
theorem zSh_rt {a : Int} (h : 0 ≤ a ∧ a < 4) : zrt 44 a.toNat = 45 + 2 * a.toNat ∧ zSe (45 + 2 * a.toNat) ∧ zrt (45 + 2 * a.toNat) 0 = 46 + 2 * a.toNat ∧ zkd (46 + 2 * a.toNat) = 100 ∧ zln (46 + 2 * a.toNat) = 40 := by
  have key : ∀ k, k < 4 → zrt 44 k = 45 + 2 * k ∧ zrt (45 + 2 * k) 0 = 46 + 2 * k ∧ zkd (46 + 2 * k) = 100 ∧ zln (46 + 2 * k) = 40 := by decide +kernel
  obtain ⟨k1, k2, k3, k4⟩ := key a.toNat (by omega)
  exact ⟨k1, by unfold zSe; omega, k2, k3, k4⟩
theorem Ish.one {a : Nat} (ha : a < 4) (hI : Ish mem) (h0 : m' 0 12 = mem 0 12) (hr : m' 122 43 = mem 122 43) (hc : ∀ k, 45 ≤ k → k ≤ 52 → k ≠ 45 + 2 * a → k ≠ 46 + 2 * a → m' k = mem k) (h143 : ∀ j, j ≠ a → m' 143 j = mem 143 j) (h144 : ∀ j, j ≠ a → m' 144 j = mem 144 j) (h145 : ∀ j, ¬ (40 * a ≤ j ∧ j < 40 * a + 40) → m' 145 j = mem 145 j)
    (hn : ((m' (45 + 2 * a) 1 = -1 ∧ m' 143 a = -4) ∨ (0 ≤ m' (45 + 2 * a) 1 ∧ m' (45 + 2 * a) 1 < 3 ∧ m' 143 a = m' (45 + 2 * a) 1)) ∧ m' (45 + 2 * a) 2 = m' 144 a ∧ (0 ≤ m' 144 a ∧ m' 144 a ≤ 40) ∧ ∀ i, i < 40 → m' (46 + 2 * a) i = m' 145 (40 * a + i)) : Ish m' := by
  refine ⟨by rw [h0, hr]; exact hI.1, fun k hk => ?_⟩
  by_cases e : k = a
  · rw [e]; exact hn
  · have := hI.2 k hk
    rw [h143 k e, h144 k e, hc (45 + 2 * k) (by omega) (by omega) (by omega) (by omega), hc (46 + 2 * k) (by omega) (by omega) (by omega) (by omega)]
    refine ⟨this.1, this.2.1, this.2.2.1, fun i hi => ?_⟩
    rw [h145 _ (by omega)]
    exact this.2.2.2 i hi
/-- the frame of what is done to a sheet -/
theorem Inv.sheet (hI : Inv mem) (hs : Ish m') (hf : ∀ k, (k < 45 ∨ 52 < k) → k ≠ 143 → k ≠ 144 → k ≠ 145 → m' k = mem k) : Inv m' :=
  ⟨hI.1.fr (fun k k1 k2 => hf k (by omega) (by omega) (by omega) (by omega)) (fun i _ => by rw [hf 123 (by omega) (by omega) (by omega) (by omega)]) (by rw [hf 122 (by omega) (by omega) (by omega) (by omega)]),
   hI.2.1.fr (by rw [hf 0 (by omega) (by omega) (by omega) (by omega)]) (by rw [hf 122 (by omega) (by omega) (by omega) (by omega)]) (fun i _ => by rw [hf 123 (by omega) (by omega) (by omega) (by omega)]) (fun k k1 k2 => hf k (by omega) (by omega) (by omega) (by omega)) (hf 142 (by omega) (by omega) (by omega) (by omega)), hs,
   hI.2.2.2.fr (by rw [hf 122 (by omega) (by omega) (by omega) (by omega)]) (by rw [hf 122 (by omega) (by omega) (by omega) (by omega)]) (by rw [hf 53 (by omega) (by omega) (by omega) (by omega)]) (by rw [hf 53 (by omega) (by omega) (by omega) (by omega)]) (hf 54 (by omega) (by omega) (by omega) (by omega)) (fun k k1 k2 => hf k (by omega) (by omega) (by omega) (by omega))⟩
/-- a row's piece set to 0 -/
def zf0 (mem : zMem) (b s n : Nat) : zMem := fun k j => if k = b ∧ s ≤ j ∧ j < s + n then 0 else mem k j
theorem zf0_k {b s n k : Nat} (h : k ≠ b) : zf0 mem b s n k = mem k := by
  funext j; unfold zf0; rw [if_neg (fun q => h q.1)]
theorem zf0_i {b s n j : Nat} (h : s ≤ j ∧ j < s + n) : zf0 mem b s n b j = 0 := by unfold zf0; rw [if_pos ⟨rfl, h⟩]
theorem zf0_o {b s n j : Nat} (h : ¬ (s ≤ j ∧ j < s + n)) : zf0 mem b s n b j = mem b j := by unfold zf0; rw [if_neg (fun q => h q.2)]
theorem zf0_s {b s n : Nat} : zup (zf0 mem b s n) b (s + n) 0 = zf0 mem b s (n + 1) := by
  funext k j
  unfold zup zf0
  by_cases hk : k = b
  · by_cases hj : j = s + n
    · rw [if_pos ⟨hk, hj⟩, if_pos ⟨hk, by omega⟩]
    · rw [if_neg (fun q => hj q.2)]
      by_cases h2 : s ≤ j ∧ j < s + n
      · rw [if_pos ⟨hk, h2⟩, if_pos ⟨hk, by omega⟩]
      · rw [if_neg (fun q => h2 q.2), if_neg (fun q => h2 (by omega))]
  · rw [if_neg (fun q => hk q.1), if_neg (fun q => hk q.1), if_neg (fun q => hk q.1)]
theorem zf0_0 {b s : Nat} : zf0 mem b s 0 = mem := by
  funext k j
  unfold zf0
  rw [if_neg (by omega)]
theorem l_Mo_sheet {a : Int} (ha : 0 ≤ a ∧ a < 4) (hQ : Q 1 (zf0 mem 145 (40 * a.toNat) 40)) : ∀ (n i : Nat), i + n = 40 → zG (d + 1) M_Mo_sheet 56 [(2, Int.ofNat 122), (0, a), (9, 0), (9, 0), (0, (i : Int))] [] (zf0 mem 145 (40 * a.toNat) i) Q
  | 0, i, hi => by
    refine v_Mo_sheet_56 ⟨fun _ => ?_, fun c => by omega⟩
    rw [show i = 40 by omega]
    exact hQ
  | n + 1, i, hi => by
    refine v_Mo_sheet_56 ⟨fun c => by omega, fun c => ?_⟩
    rw [zm (x := 40) (by omega), za (x := 40 * a) (by omega)]
    refine ⟨by omega, fun m1 e1 x1 f1 => ?_⟩
    rw [za (by omega)] at f1
    rw [show (40 * a + (i : Int)).toNat = 40 * a.toNat + i by omega, zf0_s] at e1
    rw [e1, f1]
    exact l_Mo_sheet ha hQ n (i + 1) (by omega)
theorem T_sheet {a b c : Int} (hI : Inv mem) (hR : ∀ m', Inv m' → R m') : zC (d + 3) K_Od_sheet [(2, Int.ofNat 0), (0, a), (0, b), (0, c)] mem (fun r1 m1 => zC (d + 3) K_Mo_sheet [(2, Int.ofNat 122), (0, a), (0, b), (0, c)] m1 (fun r2 m2 => (r1 = r2 → R m2) ∧ (r1 ≠ r2 → S m2))) := by
  have same : ∀ x : Int, (x = x → R mem) ∧ (x ≠ x → S mem) := fun x => ⟨fun _ => hR mem hI, fun q => absurd rfl q⟩
  have bad : ¬ ((0 ≤ a ∧ a ≤ 3) ∧ (0 ≤ b ∧ b ≤ 2) ∧ c ≤ 40) → zC (d + 3) K_Mo_sheet [(2, Int.ofNat 122), (0, a), (0, b), (0, c)] mem (fun r2 m2 => (-1 = r2 → R m2) ∧ (-1 ≠ r2 → S m2)) := fun h =>
    v_Mo_sheet (c_Mo_in (d := d + 1) (fun c1 => ⟨fun q => absurd q (by decide), fun _ => c_Mo_in (d := d + 1) (fun c2 => ⟨fun q => absurd q (by decide), fun _ => ⟨fun c3 => absurd ⟨c1, c2, c3⟩ h, fun _ => same _⟩⟩) (fun _ => ⟨fun _ => same _, fun q => absurd rfl q⟩)⟩) (fun _ => ⟨fun _ => same _, fun q => absurd rfl q⟩))
  refine v_Od_sheet (v_Od_isSheet ⟨fun c1 => ⟨fun _ => bad (by omega), fun q => absurd rfl q⟩, fun c1 => ⟨fun c2 => ⟨fun _ => bad (by omega), fun q => absurd rfl q⟩, fun c2 => ⟨fun q => absurd q (by decide), fun _ => v_Od_isLane ⟨fun c3 => ⟨fun _ => bad (by omega), fun q => absurd rfl q⟩, fun c3 => ⟨fun c4 => ⟨fun _ => bad (by omega), fun q => absurd rfl q⟩, fun c4 => ⟨fun q => absurd q (by decide), fun _ => ⟨fun c5 => ⟨fun c6 => ⟨by omega, ?_⟩, fun c6 => ?_⟩, fun c5 => bad (by omega)⟩⟩⟩⟩⟩⟩⟩)
  · obtain ⟨s1, s2, s3, s4, s5⟩ := zSh_rt ⟨c1, c2⟩
    rw [s1]
    refine v_Sh_renew s2 fun m1 e1 m2 e2 => c_Jd_fill (d := d) (b := 45 + 2 * a.toNat + 1) (by rw [show 45 + 2 * a.toNat + 1 = 46 + 2 * a.toNat by omega]; exact s4) ?_
    rw [show 45 + 2 * a.toNat + 1 = 46 + 2 * a.toNat by omega, s5]
    refine v_Mo_sheet (c_Mo_in (d := d + 1) (fun _ => ⟨fun q => absurd q (by decide), fun _ => c_Mo_in (d := d + 1) (fun _ => ⟨fun q => absurd q (by decide), fun _ => ⟨fun _ => ⟨fun _ => ⟨by omega, fun m3 e3 => ⟨by omega, fun m4 e4 => ?_⟩⟩, fun q => by omega⟩, fun q => by omega⟩⟩) (fun q => absurd (by omega) q)⟩) (fun q => absurd (by omega) q))
    have hz : m4 = zf0 m4 145 (40 * a.toNat) 0 := zf0_0.symm
    rw [hz]
    refine l_Mo_sheet (d := d + 2) (mem := m4) ⟨c1, c2⟩ ⟨fun _ => hR _ ?_, fun q => absurd rfl q⟩ 40 0 (by omega)
    have g45 : ∀ k, k ≠ 143 → k ≠ 144 → k ≠ 145 → zf0 m4 145 (40 * a.toNat) 40 k = zfl m2 (46 + 2 * a.toNat) 40 0 k := fun k k1 k2 k3 => by
      rw [zf0_k k3]; funext j; rw [e4, zup_k k2, e3, zup_k k1]
    have gk : ∀ k, k ≠ 45 + 2 * a.toNat → k ≠ 46 + 2 * a.toNat → zfl m2 (46 + 2 * a.toNat) 40 0 k = mem k := fun k k1 k2 => by
      rw [zfl_k k2]; funext j; rw [e2, zup_k k1, e1, zup_k k1]
    refine hI.sheet (hI.2.2.1.one (a := a.toNat) (by omega) ?_ ?_ (fun k k1 k2 k3 k4 => ?_) (fun j hj => ?_) (fun j hj => ?_) (fun j hj => ?_) ?_) (fun k k1 k2 k3 k4 => ?_)
    · rw [g45 0 (by omega) (by omega) (by omega), gk 0 (by omega) (by omega)]
    · rw [g45 122 (by omega) (by omega) (by omega), gk 122 (by omega) (by omega)]
    · rw [g45 k (by omega) (by omega) (by omega), gk k k3 k4]
    · rw [zf0_k (by omega), e4, zup_k (by omega), e3, zup_j hj, gk 143 (by omega) (by omega)]
    · rw [zf0_k (by omega), e4, zup_j hj, e3, zup_k (by omega), gk 144 (by omega) (by omega)]
    · rw [zf0_o hj, e4, zup_k (by omega), e3, zup_k (by omega), gk 145 (by omega) (by omega)]
    · have n1 : zf0 m4 145 (40 * a.toNat) 40 (45 + 2 * a.toNat) 1 = b := by rw [g45 _ (by omega) (by omega) (by omega), zfl_k (by omega), e2, zup_j (by omega), e1, zup_e]
      have n2 : zf0 m4 145 (40 * a.toNat) 40 (45 + 2 * a.toNat) 2 = c := by rw [g45 _ (by omega) (by omega) (by omega), zfl_k (by omega), e2, zup_e]
      have n3 : zf0 m4 145 (40 * a.toNat) 40 143 a.toNat = b := by rw [zf0_k (by omega), e4, zup_k (by omega), e3, zup_e]
      have n4 : zf0 m4 145 (40 * a.toNat) 40 144 a.toNat = c := by rw [zf0_k (by omega), e4, zup_e]
      rw [n1, n2, n3, n4]
      refine ⟨Or.inr ⟨c3, c4, rfl⟩, rfl, ⟨c6, c5⟩, fun i hi => ?_⟩
      rw [g45 _ (by omega) (by omega) (by omega), zfl_e hi, zf0_i (by omega)]
    · rw [g45 k k2 k3 k4, gk k (by omega) (by omega)]
  · exact v_Mo_sheet (c_Mo_in (d := d + 1) (fun _ => ⟨fun q => absurd q (by decide), fun _ => c_Mo_in (d := d + 1) (fun _ => ⟨fun q => absurd q (by decide), fun _ => ⟨fun _ => ⟨fun q => by omega, fun _ => same _⟩, fun q => by omega⟩⟩) (fun q => absurd (by omega) q)⟩) (fun q => absurd (by omega) q))
theorem zI32_w (z : Int32) : z.toInt = w32 z.toBitVec.toNat := by
  rw [← w32_bmod]
  exact BitVec.toInt_eq_toNat_bmod _
theorem w32_cg {x y : Int} (h : x % 4294967296 = y % 4294967296) : w32 x = w32 y := by unfold w32; omega
theorem zshl_w {x k : Int} (h : 0 ≤ k ∧ k < 32) : zshl x k = w32 (x * 2 ^ k.toNat) := by
  unfold zshl
  obtain ⟨e, rfl⟩ : ∃ e : Nat, k = Int.ofNat e := ⟨k.toNat, by simp; omega⟩
  have hs : ∀ e, e < 32 → (((Int32.ofInt (Int.ofNat e)) &&& 31).toBitVec.smod 32).toNat = e := by decide +kernel
  rw [zI32_w, pk_shl _ _ e (hs e (by simp at h; omega))]
  apply w32_cg
  rw [show (Int32.ofInt x).toBitVec = BitVec.ofInt 32 x from rfl, BitVec.toNat_ofInt]
  have e1 : ((x % ((2 ^ 32 : Nat) : Int)).toNat : Int) = x % 4294967296 := by
    rw [show ((2 ^ 32 : Nat) : Int) = 4294967296 from rfl]
    omega
  rw [Int.natCast_emod, Int.natCast_mul, e1, show ((2 ^ 32 : Nat) : Int) = 4294967296 from rfl, Int.emod_emod, show (Int.ofNat e).toNat = e from rfl, Int.mul_emod, Int.emod_emod, ← Int.mul_emod]
  simp
theorem zi2b_w {x : Int} : zi2b x = (x + 128) % 256 - 128 := by
  unfold zi2b
  rw [Int8.toInt_toInt32, Int32.toInt_toInt8, zO, Int.bmod_def]
  unfold w32
  split <;> omega
theorem zi2s_w {x : Int} : zi2s x = (x + 32768) % 65536 - 32768 := by
  unfold zi2s
  rw [Int16.toInt_toInt32, Int32.toInt_toInt16, zO, Int.bmod_def]
  unfold w32
  split <;> omega
theorem zi2b_s (x : Int) : zshr (zshl x 24) 24 = zi2b x := by
  rw [zshr_n (zshl_I _ _) (by omega) (by omega), zshl_w (by omega), zi2b_w]
  show w32 (x * 16777216) / 16777216 = _
  unfold w32
  omega
theorem zi2s_s (x : Int) : zshr (zshl x 16) 16 = zi2s x := by
  rw [zshr_n (zshl_I _ _) (by omega) (by omega), zshl_w (by omega), zi2s_w]
  show w32 (x * 65536) / 65536 = _
  unfold w32
  omega
theorem T_lay {a b c : Int} (hI : Inv mem) (hR : ∀ m', Inv m' → R m') : zC (d + 3) K_Od_lay [(2, Int.ofNat 0), (0, a), (0, b), (0, c)] mem (fun r1 m1 => zC (d + 3) K_Mo_lay [(2, Int.ofNat 122), (0, a), (0, b), (0, c)] m1 (fun r2 m2 => (r1 = r2 → R m2) ∧ (r1 ≠ r2 → S m2))) := by
  have same : ∀ x : Int, (x = x → R mem) ∧ (x ≠ x → S mem) := fun x => ⟨fun _ => hR mem hI, fun q => absurd rfl q⟩
  have bad : ¬ (0 ≤ a ∧ a ≤ 3) → zC (d + 3) K_Mo_lay [(2, Int.ofNat 122), (0, a), (0, b), (0, c)] mem (fun r2 m2 => (-1 = r2 → R m2) ∧ (-1 ≠ r2 → S m2)) := fun h =>
    v_Mo_lay (c_Mo_in (d := d + 1) (fun c1 => absurd c1 h) (fun _ => ⟨fun q => absurd rfl q, fun _ => same _⟩))
  refine v_Od_lay (v_Od_isSheet ⟨fun c1 => ⟨fun q => absurd rfl q, fun _ => bad (by omega)⟩, fun c1 => ⟨fun c2 => ⟨fun q => absurd rfl q, fun _ => bad (by omega)⟩, fun c2 => ⟨fun _ => ⟨by omega, by omega, ?_⟩, fun q => absurd q (by decide)⟩⟩⟩)
  obtain ⟨s1, s2, s3, s4, s5⟩ := zSh_rt ⟨c1, c2⟩
  obtain ⟨t1, t2, t3, t4⟩ := hI.2.2.1.2 a.toNat (by omega)
  rw [s1]
  have e144 : zsub (mem 144 a.toNat) 1 = mem 144 a.toNat - 1 := zs (by omega)
  have out : ¬ (0 ≤ b ∧ b < mem 144 a.toNat) → mem (45 + 2 * a.toNat) 1 ≠ -1 → zC (d + 3) K_Mo_lay [(2, Int.ofNat 122), (0, a), (0, b), (0, c)] mem (fun r2 m2 => (zsub (-10) 2 = r2 → R m2) ∧ (zsub (-10) 2 ≠ r2 → S m2)) := by
    intro h h2
    refine v_Mo_lay (c_Mo_in (d := d + 1) (fun _ => ⟨fun _ => ⟨by omega, fun _ => ⟨by omega, ?_⟩, fun q => by omega⟩, fun q => absurd q (by decide)⟩) (fun q => absurd (by omega) q))
    rw [e144]
    exact c_Mo_in (d := d + 1) (fun q => absurd (by omega) h) (fun _ => ⟨fun q => absurd rfl q, fun _ => ⟨fun _ => hR mem hI, fun q => absurd (by decide) q⟩⟩)
  refine v_Sh_faultAt s2 ⟨fun c3 => ⟨fun c4 => ⟨fun c5 => ⟨fun q => absurd q (by decide), fun _ => out (by omega) c3⟩, fun c5 => ⟨fun c6 => ⟨fun _ => ⟨by omega, ?_⟩, fun q => absurd rfl q⟩, fun c6 => ⟨fun q => absurd q (by decide), fun _ => out (by omega) c3⟩⟩⟩, fun c4 => absurd rfl c4⟩, fun c3 => ⟨fun q => absurd q (by decide), fun _ => ?_⟩⟩
  · have fin : ∀ v : Int, ∀ m1 : zMem, m1 = zup mem (45 + 2 * a.toNat + 1) b.toNat v → ∀ m2 : zMem, m2 = zup m1 145 (40 * a.toNat + b.toNat) v → R m2 := by
      intro v m1 e1 m2 e2
      have gk : ∀ k, k ≠ 46 + 2 * a.toNat → k ≠ 145 → m2 k = mem k := fun k k1 k2 => by funext j; rw [e2, zup_k k2, e1, zup_k (by omega)]
      refine hR m2 (hI.sheet (hI.2.2.1.one (a := a.toNat) (by omega) ?_ ?_ (fun k k1 k2 k3 k4 => ?_) (fun j hj => ?_) (fun j hj => ?_) (fun j hj => ?_) ?_) (fun k k1 k2 k3 k4 => gk k (by omega) k4))
      · rw [gk 0 (by omega) (by omega)]
      · rw [gk 122 (by omega) (by omega)]
      · rw [gk k k4 (by omega)]
      · rw [gk 143 (by omega) (by omega)]
      · rw [gk 144 (by omega) (by omega)]
      · rw [e2, zup_j (by omega), e1, zup_k (by omega)]
      · rw [gk 143 (by omega) (by omega), gk 144 (by omega) (by omega), gk (45 + 2 * a.toNat) (by omega) (by omega)]
        refine ⟨t1, t2, t3, fun i hi => ?_⟩
        rw [e2, zup_k (by omega), zup_at, e1, zup_at, show 45 + 2 * a.toNat + 1 = 46 + 2 * a.toNat by omega]
        by_cases hib : i = b.toNat
        · rw [if_pos ⟨rfl, hib⟩, if_pos ⟨rfl, by omega⟩]
        · rw [if_neg (fun q => hib q.2), if_neg (fun q => hib (by omega)), zup_k (by omega)]
          exact t4 i hi
    have ref : ∀ (v : Int) (m1 : zMem), m1 = zup mem (45 + 2 * a.toNat + 1) b.toNat v → (mem 143 a.toNat = 0 → v = zi2b c) → (mem 143 a.toNat = 1 → v = zi2s c) → (mem 143 a.toNat ≠ 0 → mem 143 a.toNat ≠ 1 → v = c) → zC (d + 3) K_Mo_lay [(2, Int.ofNat 122), (0, a), (0, b), (0, c)] m1 (fun r2 m2 => (1 = r2 → R m2) ∧ (1 ≠ r2 → S m2)) := by
      intro v m1 e1 v0 v1 v2
      have q3 : m1 143 = mem 143 := by funext j; rw [e1, zup_k (by omega)]
      have q4 : m1 144 = mem 144 := by funext j; rw [e1, zup_k (by omega)]
      have ei : zadd (zmul 40 a) b = 40 * a + b := by rw [zm (by omega), za (by omega)]
      have en : (40 * a + b).toNat = 40 * a.toNat + b.toNat := by omega
      refine v_Mo_lay (c_Mo_in (d := d + 1) (fun _ => ⟨fun _ => ?_, fun q => absurd q (by decide)⟩) (fun q => absurd (by omega) q))
      rw [q3, q4, e144]
      refine ⟨by omega, fun _ => ⟨by omega, c_Mo_in (d := d + 1) (fun _ => ⟨fun _ => ?_, fun q => absurd q (by decide)⟩) (fun q => absurd (by omega) q)⟩, fun q => by omega⟩
      rw [q3, ei, en, zi2b_s, zi2s_s]
      refine ⟨by omega, fun z0 => ⟨by omega, fun z1 => ⟨by omega, fun m3 e3 => ?_⟩, fun z1 => ⟨by omega, fun m3 e3 => ?_⟩⟩, fun z0 => ⟨by omega, fun m3 e3 => ?_⟩⟩
      · rw [← v2 z0 z1] at e3
        exact ⟨fun _ => fin v m1 e1 m3 e3, fun q => absurd rfl q⟩
      · rw [← v1 z1] at e3
        exact ⟨fun _ => fin v m1 e1 m3 e3, fun q => absurd rfl q⟩
      · rw [← v0 z0] at e3
        exact ⟨fun _ => fin v m1 e1 m3 e3, fun q => absurd rfl q⟩
    refine v_Sh_put s2 ⟨fun z0 => ⟨fun z1 => ⟨by omega, fun m1 e1 => ref _ m1 e1 (fun q => by omega) (fun q => by omega) (fun _ _ => rfl)⟩, fun z1 => ⟨by omega, fun m1 e1 => ref _ m1 e1 (fun q => by omega) (fun _ => rfl) (fun _ q => by omega)⟩⟩, fun z0 => ⟨by omega, fun m1 e1 => ref _ m1 e1 (fun _ => rfl) (fun q => by omega) (fun q => by omega)⟩⟩
  · refine v_Mo_lay (c_Mo_in (d := d + 1) (fun _ => ⟨fun _ => ⟨by omega, fun q => by omega, fun _ => ⟨fun _ => hR mem hI, fun q => absurd (by decide) q⟩⟩, fun q => absurd q (by decide)⟩) (fun q => absurd (by omega) q))
end
