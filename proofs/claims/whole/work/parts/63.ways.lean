section
/-! The class's Ways does the search. -/
variable {d w : Nat} {mem m m' : zMem} {Q : Int → zMem → Prop} {g : zPg} {b : zBf} {rm pl r t u : Int} {k : Nat}
theorem zand_bit {x k : Int} (h0 : 0 ≤ k) (h : k < 32) : zand x (zshl 1 k) = 0 ↔ ¬ zB x k.toNat := by
  rw [zB_z (zand_I _ _)]
  constructor
  · intro q z
    have := q k.toNat (by omega)
    rw [zB_and, zB_shl h0 h] at this
    exact this ⟨z, by omega⟩
  · intro q j hj
    rw [zB_and, zB_shl h0 h]
    rintro ⟨z1, z2⟩
    rw [show j = k.toNat by omega] at z1
    exact q z1
theorem pR_b (hD : gDo g) (hp : pOK g pl) : 0 ≤ pR g pl ∧ pR g pl < 10 := by
  obtain ⟨h1, h2, h3, h4⟩ := hp
  unfold pR
  split
  · omega
  · rename_i q
    obtain ⟨da, db, -⟩ := hD.2.2 (pl / 30).toNat (by omega)
    rcases (show pl / 15 % 2 = 0 ∨ pl / 15 % 2 = 1 by omega) with z | z
    · have : g (4 * (pl / 15 / 2) + pl / 15 % 2).toNat = gA g (pl / 30).toNat := by unfold gA; congr 1; omega
      rw [this]; exact da
    · have : g (4 * (pl / 15 / 2) + pl / 15 % 2).toNat = gB g (pl / 30).toNat := by unfold gB; congr 1; omega
      rw [this]; exact db
/-- the doors of a place, as House finds them -/
theorem pMay_z (hp : pOK g pl) (j : Nat) : gMay g (pR g pl) (zn4 (pL pl)) (pB pl) j ↔ pMay g pl j := by
  have hl := pL_b hp
  unfold pMay gMay
  refine and_congr Iff.rfl (not_congr ?_)
  unfold gBar
  by_cases q : pL pl = -4
  · have e : zn4 (pL pl) = -1 := by unfold zn4; rw [if_pos q]
    rw [e]
    constructor <;> (rintro ⟨q1, -⟩; omega)
  · have e : zn4 (pL pl) = pL pl := by unfold zn4; rw [if_neg q]
    rw [e]
theorem c_Ho_choices' (hH : Hs mem 2 g rm) (hD : gDo g) {r last ahead : Int} (hr : 0 ≤ r ∧ r < 10) (hl : last = -1 ∨ (0 ≤ last ∧ last < gN g)) (ha : ahead = -1 ∨ (0 ≤ ahead ∧ ahead < 14))
    (hQ : ∀ v, zI v → (∀ k, k < 32 → (zB v k ↔ gMay g r last ahead k)) → Q v mem) : zC (d + 1) K_Ho_choices [(2, Int.ofNat 2), (0, r), (0, last), (0, ahead)] mem Q := by
  refine zC.rg fun _ hrg => ?_
  have hh : zHo 2 := Or.inl rfl
  obtain ⟨h0, h1, h2, h3, h4, h5, h6⟩ := hH
  obtain ⟨hN, hL, hd⟩ := hD
  have ho : ∀ k, k < 32 → (zB (mem (2 + 4) r.toNat) k ↔ gO g r k) := fun k hk => by
    rw [h5 r.toNat (by omega) k hk, Int.toNat_of_nonneg hr.1]
  refine v_Ho_choices hh ⟨hr, fun x1 e1 => ⟨fun c => hQ _ (e1 ▸ zrg_i hrg (zHo_kd hh).2.2.2.2.1 _) (fun k hk => ?_), fun c => ⟨fun c2 => ⟨fun c3 x2 e2 => ⟨fun c4 => hQ _ (e2 ▸ zand_I _ _) (fun k hk => ?_), fun c4 => ⟨fun c5 => hQ _ (e2 ▸ zand_I _ _) (fun k hk => ?_), fun c5 => hQ _ (zand_I _ _) (fun k hk => ?_)⟩⟩, fun c3 => ⟨by omega, ⟨?_, hQ _ (zand_I _ _) (fun k hk => ?_)⟩⟩⟩, fun c2 => hQ _ (e1 ▸ zrg_i hrg (zHo_kd hh).2.2.2.2.1 _) (fun k hk => ?_)⟩⟩⟩
  · rw [e1, ho k hk]; unfold gMay gBar gO; omega
  · rw [e2, e1, zB_and, zB_not _ hk, zB_shl (by omega) (by omega), ho k hk]; unfold gMay gBar gO; omega
  · rw [e2, e1, zB_and, zB_not _ hk, zB_shl (by omega) (by omega), ho k hk]; unfold gMay gBar gO; omega
  · rw [e2, e1, zB_and, zB_and, zB_not _ hk, zB_not _ hk, zB_shl (by omega) (by omega), zB_shl (by omega) (by omega), ho k hk]; unfold gMay gBar gO; omega
  · have := (h4 last.toNat (by omega)).2.2
    have := (hd last.toNat (by omega)).2.2.2.1
    omega
  · have e3 := (h4 last.toNat (by omega)).2.2
    have e4 := (hd last.toNat (by omega)).2.2.2.1
    rw [e1, zB_and, zB_not _ hk, ho k hk, h6 _ (by omega) k hk, e3]
    unfold gMay gBar gO
    omega
  · rw [e1, ho k hk]; unfold gMay gBar gO; omega
def cRep (m : zMem) (g : zPg) (b : zBf) : Prop :=
  m 70 6 = b.1 ∧ (∀ i, i < b.1 → m 71 i = pR g (b.2 i).1 ∧ m 72 i = zn4 (pL (b.2 i).1) ∧ m 73 i = pB (b.2 i).1 ∧ m 74 i = ((b.2 i).2.1 : Int) ∧ m 75 i = (b.2 i).2.2) ∧ ∀ s, s < 28 → ∀ j, j < 15 → (zB (m 76 s) j ↔ bIn b (15 * (s : Int) + j))
theorem zn4_b {x : Int} (h : x = -4 ∨ (0 ≤ x ∧ x < 14)) : -1 ≤ zn4 x ∧ zn4 x < 14 := by
  unfold zn4
  split <;> omega
theorem l_Wy_spread (hD : gDo g) (hH : Hs mem 2 g rm) (hw : bWf g 1 b) (hk : k < b.1) {v na : Int} (hv : zI v) (hvb : ∀ j, j < 32 → (zB v j ↔ pMay g (b.2 k).1 j)) (hna : na = if gL g = 1 then zn4 (pL (b.2 k).1) else -1) (hQ : ∀ m', cRep m' g (bSp g k (gN g).toNat b) → (∀ c, c < 70 ∨ 76 < c → m' c = mem c) → Q 0 m') : ∀ (n i : Nat) (m : zMem), i + n = (gN g).toNat → cRep m g (bSp g k i b) → (∀ c, c < 70 ∨ 76 < c → m c = mem c) → zG (d + 2) M_Wy_spread 54 [(2, Int.ofNat 70), (2, Int.ofNat 2), (0, (k : Int)), (0, v), (0, na), (0, zshl 1 (na + 1)), (0, (i : Int)), (9, 0)] [] m Q := by
  have hN := hD.1
  have hn := hH.2.2.1
  have hp := (hw.2.1 k hk).1
  have hnb : -1 ≤ na ∧ na < 14 := by
    rw [hna]
    split
    · exact zn4_b (by have := pL_b hp; omega)
    · omega
  have hsz := hw.sz1
  intro n
  induction n with
  | zero =>
    intro i m hi hc hf
    refine v_Wy_spread_54 ⟨fun c => hQ m (by rw [show (gN g).toNat = i by omega]; exact hc) hf, fun c => ?_⟩
    rw [hf 2 (by omega), hn] at c
    omega
  | succ n ih =>
    intro i m hi hc hf
    have hle := bSp_le (g := g) (k := k) (b := b) i
    have hw2 := bSp_wf hD hw hk i
    have hk2 : k < (bSp g k i b).1 := Nat.lt_of_lt_of_le hk hle.1
    have hek : (bSp g k i b).2 k = b.2 k := hle.2 k hk
    have hH2 : Hs m 2 g rm := hH.fr (fun c c1 c2 => hf c (by omega))
    have hi14 : (i : Int) < gN g := by omega
    obtain ⟨c1, c2, c3⟩ := id hc
    obtain ⟨q71, q72, q73, q74, q75⟩ := c2 k hk2
    rw [hek] at q71 q72 q73 q74 q75
    obtain ⟨s1, s2, s3, s4, s5⟩ := pStep_ok hD hp (d := i) hi14
    have hse := pStep_eq hD hp (d := i) hi14
    rw [← hna] at hse s5
    have next : bSp g k (i + 1) b = bDo g k (bSp g k i b) i := rfl
    refine v_Wy_spread_54 ⟨fun c => ?_, fun c => ⟨fun c4 => ⟨by omega, ?_⟩, fun c4 x8 e8 => ?_⟩⟩
    · rw [hf 2 (by omega), hn] at c
      omega
    · rw [zB_ne hv (by omega) (by omega), hvb _ (by omega), Int.toNat_natCast] at c4
      rw [Int.toNat_natCast, q71]
      refine c_Ho_sideBeyond (d := d) (Or.inl rfl) hH2 hN.2 ⟨by omega, hi14⟩ ?_
      rw [Int.toNat_natCast]
      generalize hsd : (if gA g i = pR g (b.2 k).1 then 2 * (i : Int) + 1 else 2 * (i : Int)) = sd at hse
      have hsb : 0 ≤ sd ∧ sd < 28 := by
        rw [← hsd]
        split <;> omega
      have tst : zand (m 76 sd.toNat) (zshl 1 (na + 1)) = 0 ↔ ¬ bIn (bSp g k i b) (pStep g (b.2 k).1 i) := by
        rw [zand_bit (by omega) (by omega), c3 sd.toNat (by omega) (na + 1).toNat (by omega)]
        rw [show 15 * ((sd.toNat : Nat) : Int) + ((na + 1).toNat : Nat) = pStep g (b.2 k).1 i by omega]
      refine ⟨hsb, fun c5 x2 e2 => ?_, fun c5 => ?_⟩
      · rw [za (by omega)] at e2
        have hin : bIn (bSp g k i b) (pStep g (b.2 k).1 i) := Classical.byContradiction fun q => c5 (tst.mpr q)
        rw [e2]
        refine ih (i + 1) m (by omega) ?_ hf
        rw [next]
        unfold bDo
        rw [hek, if_neg (fun q => q.2 hin)]
        exact hc
      · have hnin := tst.mp c5
        have hdo : bDo g k (bSp g k i b) i = bPush (bSp g k i b) (pStep g (b.2 k).1 i) k ((b.2 k).2.2 + 1) := by
          unfold bDo
          rw [hek, if_pos ⟨c4, hnin⟩]
        have hw3 := bDo_wf hD hw2 hk2 (d := i)
        have hs3 := hw3.sz1
        rw [hdo] at hs3
        have hs3 : (bSp g k i b).1 + 1 ≤ 421 := hs3
        have hle2 : (b.2 k).2.2 ≤ k := (hw.2.1 k hk).2.2
        have hge2 : 0 ≤ (b.2 k).2.2 := (hw.2.1 k hk).2.1
        refine ⟨fun c6 => by omega, fun c6 => ⟨hsb, hsb, fun m2 f2 => ⟨by omega, ?_⟩⟩⟩
        have g2 : ∀ c, c ≠ 76 → m2 c = m c := fun c hc => by funext j; rw [f2, zup_k hc]
        rw [g2 71 (by omega), q71]
        refine c_Ho_beyond (d := d) (Or.inl rfl) (hH2.fr (fun c c1 c2 => g2 c (by omega))) hN.2 ⟨by omega, hi14⟩ ?_
        rw [Int.toNat_natCast, g2 70 (by omega), c1, Int.toNat_natCast]
        refine ⟨by omega, fun m4 f4 => ?_⟩
        have z4 : m4 70 6 = (bSp g k i b).1 := by rw [f4, zup_k (by omega), g2 70 (by omega), c1]
        rw [z4, Int.toNat_natCast]
        refine ⟨by omega, fun m5 f5 => ?_⟩
        have z5 : m5 70 6 = (bSp g k i b).1 := by rw [f5, zup_k (by omega), z4]
        rw [z5, Int.toNat_natCast]
        refine ⟨by omega, fun m6 f6 => ?_⟩
        have z6 : m6 70 6 = (bSp g k i b).1 := by rw [f6, zup_k (by omega), z5]
        rw [z6, Int.toNat_natCast]
        refine ⟨by omega, fun m7 f7 => ?_⟩
        have z7 : m7 70 6 = (bSp g k i b).1 := by rw [f7, zup_k (by omega), z6]
        have y7 : m7 75 k = (b.2 k).2.2 := by rw [f7, zup_k (by omega), f6, zup_k (by omega), f5, zup_k (by omega), f4, zup_k (by omega), g2 75 (by omega), q75]
        rw [z7, Int.toNat_natCast, y7, za (by omega)]
        refine ⟨by omega, by omega, fun m8 f8 m9 f9 x5 e5 => ?_⟩
        have z8 : m8 70 6 = (bSp g k i b).1 := by rw [f8, zup_k (by omega), z7]
        rw [z8, za (by omega)] at f9
        rw [za (by omega)] at e5
        rw [e5]
        have h71 : ∀ x, m9 71 x = if x = (bSp g k i b).1 then gBy g i (pR g (b.2 k).1) else m 71 x := fun x => by
          rw [f9, zup_k (by omega), f8, zup_k (by omega), f7, zup_k (by omega), f6, zup_k (by omega), f5, zup_k (by omega), f4, zup_at, g2 71 (by omega)]
          by_cases hx : x = (bSp g k i b).1
          · rw [if_pos ⟨rfl, hx⟩, if_pos hx]; rfl
          · rw [if_neg (fun q => hx q.2), if_neg hx]
        have h72 : ∀ x, m9 72 x = if x = (bSp g k i b).1 then (i : Int) else m 72 x := fun x => by
          rw [f9, zup_k (by omega), f8, zup_k (by omega), f7, zup_k (by omega), f6, zup_k (by omega), f5, zup_at, f4, zup_k (by omega), g2 72 (by omega)]
          by_cases hx : x = (bSp g k i b).1
          · rw [if_pos ⟨rfl, hx⟩, if_pos hx]
          · rw [if_neg (fun q => hx q.2), if_neg hx]
        have h73 : ∀ x, m9 73 x = if x = (bSp g k i b).1 then na else m 73 x := fun x => by
          rw [f9, zup_k (by omega), f8, zup_k (by omega), f7, zup_k (by omega), f6, zup_at, f5, zup_k (by omega), f4, zup_k (by omega), g2 73 (by omega)]
          by_cases hx : x = (bSp g k i b).1
          · rw [if_pos ⟨rfl, hx⟩, if_pos hx]
          · rw [if_neg (fun q => hx q.2), if_neg hx]
        have h74 : ∀ x, m9 74 x = if x = (bSp g k i b).1 then (k : Int) else m 74 x := fun x => by
          rw [f9, zup_k (by omega), f8, zup_k (by omega), f7, zup_at, f6, zup_k (by omega), f5, zup_k (by omega), f4, zup_k (by omega), g2 74 (by omega)]
          by_cases hx : x = (bSp g k i b).1
          · rw [if_pos ⟨rfl, hx⟩, if_pos hx]
          · rw [if_neg (fun q => hx q.2), if_neg hx]
        have h75 : ∀ x, m9 75 x = if x = (bSp g k i b).1 then (b.2 k).2.2 + 1 else m 75 x := fun x => by
          rw [f9, zup_k (by omega), f8, zup_at, f7, zup_k (by omega), f6, zup_k (by omega), f5, zup_k (by omega), f4, zup_k (by omega), g2 75 (by omega)]
          by_cases hx : x = (bSp g k i b).1
          · rw [if_pos ⟨rfl, hx⟩, if_pos hx]
          · rw [if_neg (fun q => hx q.2), if_neg hx]
        have h76 : ∀ x, m9 76 x = if x = sd.toNat then zor (m 76 sd.toNat) (zshl 1 (na + 1)) else m 76 x := fun x => by
          rw [f9, zup_k (by omega), f8, zup_k (by omega), f7, zup_k (by omega), f6, zup_k (by omega), f5, zup_k (by omega), f4, zup_k (by omega), f2, zup_at]
          by_cases hx : x = sd.toNat
          · rw [if_pos ⟨rfl, hx⟩, if_pos hx]
          · rw [if_neg (fun q => hx q.2), if_neg hx]
        refine ih (i + 1) m9 (by omega) ?_ (fun c hc => ?_)
        · rw [next, hdo]
          refine ⟨?_, fun x hx => ?_, fun s hs j hj => ?_⟩
          · rw [f9, zup_e]
            show _ = (((bSp g k i b).1 + 1 : Nat) : Int)
            omega
          · rw [h71, h72, h73, h74, h75]
            by_cases hxe : x = (bSp g k i b).1
            · rw [if_pos hxe, if_pos hxe, if_pos hxe, if_pos hxe, if_pos hxe, hxe, bPush_at]
              refine ⟨s3.symm, ?_, s5.symm, rfl, rfl⟩
              show (i : Int) = zn4 (pL (pStep g (b.2 k).1 i))
              rw [s4]
              unfold zn4
              rw [if_neg (by omega)]
            · have hx2 : x < (bSp g k i b).1 := by
                have : x < (bSp g k i b).1 + 1 := hx
                omega
              rw [if_neg hxe, if_neg hxe, if_neg hxe, if_neg hxe, if_neg hxe, (bPush_le _ _ _).2 x hx2]
              exact c2 x hx2
          · rw [bPush_in, h76, ← c3 s hs j hj]
            by_cases hse2 : s = sd.toNat
            · rw [if_pos hse2, (zB_put (by omega) (by omega) (by omega)).1, hse2]
              constructor
              · rintro (q | q)
                · exact Or.inl q
                · exact Or.inr (by omega)
              · rintro (q | q)
                · exact Or.inl q
                · exact Or.inr (by omega)
            · rw [if_neg hse2]
              exact ⟨Or.inl, fun q => q.elim id (fun z => absurd (show s = sd.toNat by omega) hse2)⟩
        · funext j
          rw [f9, zup_k (by omega), f8, zup_k (by omega), f7, zup_k (by omega), f6, zup_k (by omega), f5, zup_k (by omega), f4, zup_k (by omega), g2 c (by omega), hf c hc]
    · rw [zB_test hv (by omega) (by omega), hvb _ (by omega), Int.toNat_natCast] at c4
      rw [za (by omega)] at e8
      rw [e8]
      refine ih (i + 1) m (by omega) ?_ hf
      rw [next]
      unfold bDo
      rw [hek, if_neg (fun q => c4 q.1)]
      exact hc
theorem c_Wy_spread (hD : gDo g) (hH : Hs mem 2 g rm) (hw : bWf g 1 b) (hk : k < b.1) (hc : cRep mem g b) (hQ : ∀ m', cRep m' g (bSp g k (gN g).toNat b) → (∀ c, c < 70 ∨ 76 < c → m' c = mem c) → Q 0 m') : zC (d + 2) K_Wy_spread [(2, Int.ofNat 70), (2, Int.ofNat 2), (0, (k : Int))] mem Q := by
  have hN := hD.1
  have hp := (hw.2.1 k hk).1
  have hsz := hw.sz1
  have hl := pL_b hp
  have hb := pB_b hp
  obtain ⟨q71, q72, q73, q74, q75⟩ := hc.2.1 k hk
  refine v_Wy_spread ⟨by omega, by omega, by omega, ?_⟩
  rw [Int.toNat_natCast, q71, q72, q73]
  have hbN : pB (b.2 k).1 = -1 ∨ (0 ≤ pB (b.2 k).1 ∧ pB (b.2 k).1 < 14) := by omega
  refine c_Ho_choices' (d := d) hH hD (pR_b hD hp) (zn4_or hl) hbN (fun v hv hvb => ?_)
  have hvb2 : ∀ j, j < 32 → (zB v j ↔ pMay g (b.2 k).1 j) := fun j hj => by rw [hvb j hj]; exact pMay_z hp j
  have e21 : mem 2 1 = gL g := hH.2.1
  refine ⟨fun c x2 e2 => ?_, fun c => ⟨by omega, fun x3 e3 x4 e4 => ?_⟩⟩
  · rw [e21] at c
    rw [za (by omega)] at e2
    rw [e2]
    exact l_Wy_spread (d := d) hD hH hw hk hv hvb2 (by rw [if_neg c]) hQ (gN g).toNat 0 mem (by omega) hc (fun _ _ => rfl)
  · rw [e21] at c
    rw [q72] at e3
    have := zn4_b (x := pL (b.2 k).1) (by omega)
    rw [za (by omega)] at e4
    rw [e4]
    exact l_Wy_spread (d := d) hD hH hw hk hv hvb2 (by rw [if_pos c, e3]) hQ (gN g).toNat 0 mem (by omega) hc (fun _ _ => rfl)
end
