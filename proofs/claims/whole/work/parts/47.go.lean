section
variable {d w : Nat} {mem m' : zMem} {Q : Int → zMem → Prop} {R S : zMem → Prop} {g g' : zPg} {rm : Int}
theorem pStep_at {pl : Int} {k : Nat} (hk : k < 14) (hpl : pL pl = -4 ∨ (0 ≤ pL pl ∧ pL pl < 14)) : (0 ≤ pStep g pl k ∧ pStep g pl k < 570) ∧ ∀ g' : zPg, (∀ i, i < 57 → g' i = g i) → pR g' (pStep g pl k) = gBy g k (pR g pl) := by
  have hb2 : ∀ b : Int, b = (if gL g = 1 then pL pl else -4) → b = -4 ∨ (0 ≤ b ∧ b < 14) := by
    intro b hb
    rw [hb]
    split
    · exact hpl
    · exact Or.inl rfl
  unfold pStep pMk
  rw [if_neg (show ¬ ((k : Nat) : Int) = -4 by omega)]
  generalize hb : (if gL g = 1 then pL pl else -4) = b
  have hb3 := hb2 b hb.symm
  have hbb : ∀ bb : Int, bb = (if b = -4 then 0 else b + 1) → 0 ≤ bb ∧ bb < 15 := by
    intro bb e
    rw [e]
    split <;> omega
  generalize hbe : (if b = -4 then 0 else b + 1) = bb
  obtain ⟨b0, b1⟩ := hbb bb hbe.symm
  have hs2 : ∀ s : Int, s = (if gA g k = pR g pl then 1 else 0) → (s = 0 ∧ gA g k ≠ pR g pl) ∨ (s = 1 ∧ gA g k = pR g pl) := by
    intro s e
    rw [e]
    split
    · rename_i q; exact Or.inr ⟨rfl, q⟩
    · rename_i q; exact Or.inl ⟨rfl, q⟩
  generalize hse : (if gA g k = pR g pl then (1 : Int) else 0) = s
  have hs := hs2 s hse.symm
  refine ⟨by omega, fun g' hg => ?_⟩
  unfold gBy
  show (if 28 ≤ (15 * (2 * (k : Int) + s) + bb) / 15 then (15 * (2 * (k : Int) + s) + bb) / 15 - 28 else g' (4 * ((15 * (2 * (k : Int) + s) + bb) / 15 / 2) + (15 * (2 * (k : Int) + s) + bb) / 15 % 2).toNat) = _
  rw [show (15 * (2 * (k : Int) + s) + bb) / 15 = 2 * k + s by omega, if_neg (by omega)]
  rcases hs with ⟨q, q2⟩ | ⟨q, q2⟩
  · rw [if_neg q2, show (4 * ((2 * (k : Int) + s) / 2) + (2 * (k : Int) + s) % 2).toNat = 4 * k by omega]
    exact hg _ (by omega)
  · rw [if_pos q2, show (4 * ((2 * (k : Int) + s) / 2) + (2 * (k : Int) + s) % 2).toNat = 4 * k + 1 by omega]
    exact hg _ (by omega)
/-- promise go -/
theorem t_go {a b : Int} (hI : Ipal mem) (hR : ∀ m', Ipal m' → (∀ k, k ≠ 123 → ¬ (9 ≤ k ∧ k ≤ 13) → m' k = mem k) → (∀ i, ¬ (57 ≤ i ∧ i < 72) → m' 123 i = mem 123 i) → R m') :
    zC (d + 4) K_Od_go [(2, Int.ofNat 0), (0, a), (0, b)] mem (fun r1 m1 => zC (d + 4) K_Mo_go [(2, Int.ofNat 122), (0, a), (0, b)] m1 (fun r2 m2 => (r1 = r2 → R m2) ∧ (r1 ≠ r2 → S m2))) := by
  obtain ⟨⟨w1, w2, w3, w4, w5, w6⟩, hP⟩ := id hI
  have hN := w1.1
  have hn0 : mem 2 2 = gN (mem 123) := hP.1.2.2.1
  have same : ∀ x : Int, (x = x → R mem) ∧ (x ≠ x → S mem) := fun x => ⟨fun _ => hR mem hI (fun _ _ _ => rfl) (fun _ _ => rfl), fun q => absurd rfl q⟩
  refine v_Od_go (c_Pa_hasOne (d := d + 2) (Or.inl rfl) hP (fun c => ⟨fun q => absurd q (by decide), fun _ => ?_⟩) (fun c => ⟨fun _ => ?_, fun q => absurd rfl q⟩))
  · have hWk := w5 a.toNat (by omega)
    obtain ⟨k1, k2, k3, k4⟩ := id hWk
    obtain ⟨o1, o2, o3, o4⟩ := pOf_ok w1 w2.2 hWk
    have hmay := pOf_may w1 w2.2 hWk
    refine c_Ho_hasDoor (d := d + 2) (Or.inl rfl) (fun c2 => ⟨fun _ => ⟨by omega, ?_⟩, fun q => absurd q (by decide)⟩) (fun c2 => ⟨fun q => absurd rfl q, fun _ => ?_⟩)
    · rw [hn0] at c2
      obtain ⟨z1, z2⟩ := zPa_wk (p := 1) (Or.inl rfl) (i := a.toNat) (by omega)
      have z1 : zrt 8 a.toNat = 9 + a.toNat := z1
      have z2 : zkd (9 + a.toNat) = 9 := z2
      rw [z1]
      have hWs : Ws mem (9 + a.toNat) (gR (mem 123) a.toNat) (gT (mem 123) a.toNat) (gU (mem 123) a.toNat) := hP.2.2.1 a.toNat (by omega)
      refine c_Wa_step (d := d) z2 hP.1 w1 hWs (by omega) (by omega) k3 (by omega) (fun _ hm m1 hW hf => ⟨fun q => absurd q (by decide), fun _ => ⟨by omega, ?_⟩⟩) (fun hm => ⟨fun _ => ?_, fun q => absurd rfl q⟩)
      · have q3 : m1 123 = mem 123 := hf 123 (by omega)
        have hm2 : pMay (mem 123) (pOf (mem 123) a.toNat) b.toNat := (hmay b.toNat).mpr hm
        obtain ⟨s1, s2⟩ := pStep_at (g := mem 123) (pl := pOf (mem 123) a.toNat) (k := b.toNat) (by omega) (by rw [o3]; omega)
        rw [o2] at s2
        refine v_Mo_go (v_Mo_goes (c_Mo_isOne (d := d) (by rw [q3]; exact w4.1) (fun c3 => ⟨fun q => absurd q (by decide), fun _ => ?_⟩) (fun c3 => absurd (by rw [q3]; exact c) c3)))
        refine c_Mo_isDoor (d := d) (by rw [q3]; exact hN.1) (fun c4 => ⟨fun _ => ?_, fun q => absurd q (by decide)⟩) (fun c4 => absurd (by rw [q3]; exact c2) c4)
        refine c_Mo_placeOfOne (d := d) (rm := mem 122 1) (by rw [q3]; exact w1) w2.2 (by omega) (by rw [q3]; exact hWk) ?_
        refine c_Mo_stepped (d := d) (by rw [q3]; exact o1) (by rw [q3]; exact w1) (by rw [q3]; exact c2) (fun _ => ⟨fun _ => ?_, fun q => ?_⟩) (fun q => absurd (by rw [q3]; exact hm2) q)
        · rw [q3]
          refine c_Mo_roomAt (d := d + 1) s1 ?_
          rw [q3, s2 (mem 123) (fun _ _ => rfl)]
          have i1 : zmul 3 a = 3 * a := zmul_n (by unfold zI; omega)
          have i2 : zadd 57 (3 * a) = 57 + 3 * a := zadd_n (by unfold zI; omega)
          have i3 : zadd (57 + 3 * a) 1 = 57 + 3 * a + 1 := zadd_n (by unfold zI; omega)
          have i4 : zadd (57 + 3 * a) 2 = 57 + 3 * a + 2 := zadd_n (by unfold zI; omega)
          rw [i1, i2, i3, i4, show (57 + 3 * a).toNat = 57 + 3 * a.toNat by omega, show (57 + 3 * a + 1).toNat = 58 + 3 * a.toNat by omega, show (57 + 3 * a + 2).toNat = 59 + 3 * a.toNat by omega]
          refine ⟨by omega, fun m6 f6 => ⟨by omega, by omega, fun m7 f7 => ⟨by omega, fun m8 f8 => ?_⟩⟩⟩
          have hold : m6 123 (58 + 3 * a.toNat) = gT (mem 123) a.toNat := by rw [f6, zup_j (by omega), q3]; rfl
          rw [hold] at f7
          have h123 : m8 123 = gPut (mem 123) a.toNat (gBy (mem 123) b.toNat (gR (mem 123) a.toNat)) b (gT (mem 123) a.toNat) := by rw [zput3' f6 f7 f8, q3]
          have hfr : ∀ k, k ≠ 123 → m8 k = m1 k := fun k hk => by funext i; rw [f8, zup_k hk, f7, zup_k hk, f6, zup_k hk]
          refine c_Mo_roomAt (d := d + 1) s1 ?_
          rw [s2 (m8 123) (fun i hi => by rw [h123, gPut_out (by omega) (by omega)])]
          refine ⟨fun _ => hR m8 (hI.put (p := a.toNat) (by omega) ?_ h123 ?_ (fun k k1 k2 => ?_)) (fun k k1 k2 => ?_) (fun i hi => ?_), fun q => absurd hW.1 q⟩
          · obtain ⟨a1, a2, a3⟩ := (gPut_at (g := mem 123) (p := a.toNat) (r := gBy (mem 123) b.toNat (gR (mem 123) a.toNat)) (t := b) (u := gT (mem 123) a.toNat) a.toNat).1 rfl
            obtain ⟨e1, -, -⟩ := gPut_eq (g := mem 123) (p := a.toNat) (by omega) (r := gBy (mem 123) b.toNat (gR (mem 123) a.toNat)) (t := b) (u := gT (mem 123) a.toNat)
            obtain ⟨x1, x2, -, -⟩ := e1.at (k := b.toNat) (by omega)
            obtain ⟨d1, d2, -⟩ := w1.2.2 b.toNat (by omega)
            obtain ⟨y1, y2⟩ := w3 b.toNat (by omega)
            unfold gWk
            rw [a1, a2, a3, e1.N, x1, x2]
            have hby : gA (mem 123) b.toNat = gBy (mem 123) b.toNat (gR (mem 123) a.toNat) ∨ gB (mem 123) b.toNat = gBy (mem 123) b.toNat (gR (mem 123) a.toNat) := by
              unfold gBy; split
              · exact Or.inr rfl
              · exact Or.inl rfl
            refine ⟨by omega, Or.inr ⟨c2.1, c2.2, hby⟩, by omega, fun q => by omega⟩
          · unfold Ws
            rw [hfr _ (by omega)]
            exact hW
          · rw [hfr k k1, hf k k2]
          · rw [hfr k k1, hf k (by omega)]
          · rw [h123, gPut_out (by omega) hi]
        · rw [q3] at q
          omega
      · have hm2 : ¬ pMay (mem 123) (pOf (mem 123) a.toNat) b.toNat := fun q => hm ⟨c2, (hmay b.toNat).mp q⟩
        refine v_Mo_go (v_Mo_goes (c_Mo_isOne (d := d) w4.1 (fun c3 => ⟨fun q => absurd q (by decide), fun _ => ?_⟩) (fun c3 => absurd c c3)))
        refine c_Mo_isDoor (d := d) hN.1 (fun c4 => ⟨fun _ => ?_, fun q => absurd q (by decide)⟩) (fun c4 => absurd c2 c4)
        refine c_Mo_placeOfOne (d := d) (rm := mem 122 1) w1 w2.2 (by omega) hWk ?_
        exact c_Mo_stepped (d := d) o1 w1 c2 (fun q => absurd q hm2) (fun _ => ⟨fun q => absurd rfl q, fun _ => same _⟩)
    · rw [hn0] at c2
      refine v_Mo_go (v_Mo_goes (c_Mo_isOne (d := d) w4.1 (fun c3 => ⟨fun q => absurd q (by decide), fun _ => ?_⟩) (fun c3 => absurd c c3)))
      exact c_Mo_isDoor (d := d) hN.1 (fun c4 => absurd c4 c2) (fun c4 => ⟨fun q => absurd rfl q, fun _ => same _⟩)
  · exact v_Mo_go (v_Mo_goes (c_Mo_isOne (d := d) w4.1 (fun c3 => absurd c3 c) (fun c3 => ⟨fun _ => same _, fun q => absurd rfl q⟩)))
end
