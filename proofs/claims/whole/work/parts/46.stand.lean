section
variable {d w : Nat} {mem m' : zMem} {Q : Int → zMem → Prop} {R S : zMem → Prop} {g g' : zPg} {rm : Int}
theorem zput3 {m m1 m2 m3 : zMem} {p : Nat} {r t u : Int} (e1 : m1 = zup m 123 (57 + 3 * p) r) (e2 : m2 = zup m1 123 (58 + 3 * p) t) (e3 : m3 = zup m2 123 (59 + 3 * p) u) : m3 123 = gPut (m 123) p r t u := by
  funext i
  unfold gPut
  by_cases c1 : i = 57 + 3 * p
  · rw [if_pos c1, e3, zup_j (by omega), e2, zup_j (by omega), e1, c1, zup_e]
  · rw [if_neg c1]
    by_cases c2 : i = 58 + 3 * p
    · rw [if_pos c2, e3, zup_j (by omega), e2, c2, zup_e]
    · rw [if_neg c2]
      by_cases c3 : i = 59 + 3 * p
      · rw [if_pos c3, e3, c3, zup_e]
      · rw [if_neg c3, e3, zup_j c3, e2, zup_j c2, e1, zup_j c1]
theorem zput3' {m m1 m2 m3 : zMem} {p : Nat} {r t u : Int} (e1 : m1 = zup m 123 (57 + 3 * p) r) (e2 : m2 = zup m1 123 (59 + 3 * p) u) (e3 : m3 = zup m2 123 (58 + 3 * p) t) : m3 123 = gPut (m 123) p r t u := by
  funext i
  unfold gPut
  by_cases c1 : i = 57 + 3 * p
  · rw [if_pos c1, e3, zup_j (by omega), e2, zup_j (by omega), e1, c1, zup_e]
  · rw [if_neg c1]
    by_cases c2 : i = 58 + 3 * p
    · rw [if_pos c2, e3, c2, zup_e]
    · rw [if_neg c2]
      by_cases c3 : i = 59 + 3 * p
      · rw [if_pos c3, e3, zup_j c2, e2, c3, zup_e]
      · rw [if_neg c3, e3, zup_j c2, e2, zup_j c3, e1, zup_j c1]
theorem gPut_out {p : Nat} (hp : p < 5) {r t u : Int} {i : Nat} (hi : ¬ (57 ≤ i ∧ i < 72)) : gPut g p r t u i = g i := by
  unfold gPut
  rw [if_neg (by omega), if_neg (by omega), if_neg (by omega)]
/-- promise stand: both sides answer alike, and the palace stands -/
theorem t_stand {a b : Int} (hI : Ipal mem) (hR : ∀ m', Ipal m' → (∀ k, k ≠ 123 → ¬ (9 ≤ k ∧ k ≤ 13) → m' k = mem k) → (∀ i, ¬ (57 ≤ i ∧ i < 72) → m' 123 i = mem 123 i) → R m') :
    zC (d + 3) K_Od_stand [(2, Int.ofNat 0), (0, a), (0, b)] mem (fun r1 m1 => zC (d + 3) K_Mo_stand [(2, Int.ofNat 122), (0, a), (0, b)] m1 (fun r2 m2 => (r1 = r2 → R m2) ∧ (r1 ≠ r2 → S m2))) := by
  obtain ⟨⟨w1, w2, w3, w4, w5, w6⟩, hP⟩ := id hI
  have hr0 : mem 2 0 = mem 122 1 := hP.1.1
  have hgp : mem 123 72 = gP (mem 123) := rfl
  have same : ∀ x : Int, (x = x → R mem) ∧ (x ≠ x → S mem) := fun x => ⟨fun _ => hR mem hI (fun _ _ _ => rfl) (fun _ _ => rfl), fun q => absurd rfl q⟩
  refine v_Od_stand (c_Pa_hasOne (d := d + 1) (Or.inl rfl) hP (fun c => ⟨fun q => absurd q (by decide), fun _ => ?_⟩) (fun c => ⟨fun _ => ?_, fun q => absurd rfl q⟩))
  · refine c_Ho_hasRoom (d := d + 1) (Or.inl rfl) (fun c2 => ⟨fun _ => ⟨by omega, fun x3 e3 => ⟨by omega, ?_⟩⟩, fun q => absurd q (by decide)⟩) (fun c2 => ⟨fun q => absurd rfl q, fun _ => ?_⟩)
    · obtain ⟨z1, z2⟩ := zPa_wk (p := 1) (Or.inl rfl) (i := a.toNat) (by omega)
      have z1 : zrt 8 a.toNat = 9 + a.toNat := z1
      have z2 : zkd (9 + a.toNat) = 9 := z2
      rw [z1] at e3 ⊢
      refine c_Wa_standNew (d := d + 1) z2 (fun m1 hW hf => ?_)
      have q3 : m1 123 = mem 123 := hf 123 (by omega)
      have q2 : m1 122 = mem 122 := hf 122 (by omega)
      refine v_Mo_stand (c_Mo_isOne (d := d) (by rw [q3]; exact w4.1) (fun c3 => ⟨fun q => absurd q (by decide), fun _ => ?_⟩) (fun c3 => absurd (by rw [q3]; exact c) c3))
      refine c_Mo_isRoom (d := d) (by rw [q2]; omega) (fun c4 => ⟨fun _ => ?_, fun q => absurd q (by decide)⟩) (fun c4 => absurd (by rw [q2]; omega) c4)
      have i1 : zmul 3 a = 3 * a := zmul_n (by unfold zI; omega)
      have i2 : zadd 57 (3 * a) = 57 + 3 * a := zadd_n (by unfold zI; omega)
      have i3 : zadd (57 + 3 * a) 1 = 57 + 3 * a + 1 := zadd_n (by unfold zI; omega)
      have i4 : zadd (57 + 3 * a) 2 = 57 + 3 * a + 2 := zadd_n (by unfold zI; omega)
      rw [i1, i2, i3, i4, show (57 + 3 * a).toNat = 57 + 3 * a.toNat by omega, show (57 + 3 * a + 1).toNat = 58 + 3 * a.toNat by omega, show (57 + 3 * a + 2).toNat = 59 + 3 * a.toNat by omega]
      refine ⟨by omega, fun x5 e5 => ⟨by omega, fun m3 f3 => ⟨by omega, fun m4 f4 => ⟨by omega, fun m5 f5 => ?_⟩⟩⟩⟩
      have hx : x3 = x5 := by
        rw [e5, q3, e3]
        exact (hP.2.2.1 a.toNat (by omega)).1
      have h123 : m5 123 = gPut (mem 123) a.toNat b (-4) (-4) := by rw [zput3 f3 f4 f5, q3]
      have hfr : ∀ k, k ≠ 123 → m5 k = m1 k := fun k hk => by funext i; rw [f5, zup_k hk, f4, zup_k hk, f3, zup_k hk]
      refine ⟨fun _ => hR m5 (hI.put (p := a.toNat) (by omega) ?_ h123 ?_ (fun k k1 k2 => ?_)) (fun k k1 k2 => ?_) (fun i hi => ?_), fun q => absurd hx q⟩
      · obtain ⟨a1, a2, a3⟩ := (gPut_at (g := mem 123) (p := a.toNat) (r := b) (t := -4) (u := -4) a.toNat).1 rfl
        unfold gWk
        rw [a1, a2, a3]
        exact ⟨⟨c2.1, by omega⟩, Or.inl rfl, Or.inl rfl, fun _ => rfl⟩
      · unfold Ws
        rw [hfr _ (by omega)]
        exact hW
      · rw [hfr k k1, hf k k2]
      · rw [hfr k k1, hf k (by omega)]
      · rw [h123, gPut_out (by omega) hi]
    · refine v_Mo_stand (c_Mo_isOne (d := d) w4.1 (fun c3 => ⟨fun q => absurd q (by decide), fun _ => ?_⟩) (fun c3 => absurd c c3))
      exact c_Mo_isRoom (d := d) (by omega) (fun c4 => absurd (by omega) c2) (fun c4 => ⟨fun q => absurd rfl q, fun _ => same _⟩)
  · exact v_Mo_stand (c_Mo_isOne (d := d) w4.1 (fun c3 => absurd c3 c) (fun c3 => ⟨fun _ => same _, fun q => absurd rfl q⟩))
end
