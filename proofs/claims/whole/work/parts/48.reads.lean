section
variable {d w : Nat} {mem m' : zMem} {Q : Int → zMem → Prop} {R S : zMem → Prop} {g g' : zPg} {rm : Int}
/-- promise rule -/
theorem t_rule {a : Int} (hI : Ipal mem) (hR : R mem) : zC (d + 2) K_Od_rule [(2, Int.ofNat 0), (0, a)] mem (fun r1 m1 => zC (d + 2) K_Mo_rule [(2, Int.ofNat 122), (0, a)] m1 (fun r2 m2 => (r1 = r2 → R m2) ∧ (r1 ≠ r2 → S m2))) := by
  obtain ⟨hw, hP⟩ := id hI
  have h0 : mem 2 0 = mem 122 1 := hP.1.1
  have h1 : mem 2 1 = mem 123 73 := hP.1.2.1
  have h2 : mem 2 2 = mem 123 56 := hP.1.2.2.1
  have h3 : mem 1 2 = mem 123 72 := hP.2.1
  have same : ∀ x y : Int, x = y → (x = y → R mem) ∧ (x ≠ y → S mem) := fun x y e => ⟨fun _ => hR, fun q => absurd e q⟩
  refine v_Od_rule ⟨fun c => v_Mo_rule ⟨fun q => absurd c q, fun _ => same _ _ h0⟩, fun c => v_Mo_rule ⟨fun _ => ⟨fun q => absurd c q, fun _ => same _ _ h1⟩, fun q => by omega⟩, fun c => v_Mo_rule ⟨fun _ => ⟨fun _ => ⟨fun q => absurd c q, fun _ => c_Mo_doorMany (d := d) (same _ _ h2)⟩, fun q => by omega⟩, fun q => by omega⟩, fun c => v_Mo_rule ⟨fun _ => ⟨fun _ => ⟨fun _ => ⟨fun q => absurd c q, fun _ => c_Mo_ones (d := d) (same _ _ h3)⟩, fun q => by omega⟩, fun q => by omega⟩, fun q => by omega⟩, fun c => v_Mo_rule ⟨fun _ => ⟨fun _ => ⟨fun _ => ⟨fun _ => same _ _ rfl, fun q => by omega⟩, fun q => by omega⟩, fun q => by omega⟩, fun q => by omega⟩⟩
/-- promise doors -/
theorem t_doors {a : Int} (hI : Ipal mem) (hR : R mem) : zC (d + 3) K_Od_doors [(2, Int.ofNat 0), (0, a)] mem (fun r1 m1 => zC (d + 3) K_Mo_doors [(2, Int.ofNat 122), (0, a)] m1 (fun r2 m2 => (r1 = r2 → R m2) ∧ (r1 ≠ r2 → S m2))) := by
  refine zC.rg fun _ hrg => ?_
  obtain ⟨⟨w1, w2, w3, w4, w5, w6⟩, hP⟩ := id hI
  have h0 : mem 2 0 = mem 122 1 := hP.1.1
  have same : ∀ x y : Int, x = y → (x = y → R mem) ∧ (x ≠ y → S mem) := fun x y e => ⟨fun _ => hR, fun q => absurd e q⟩
  refine v_Od_doors (c_Ho_hasRoom (d := d + 1) (Or.inl rfl) (fun c => ⟨fun q => absurd q (by decide), fun _ => ⟨by omega, ?_⟩⟩) (fun c => ⟨fun _ => ?_, fun q => absurd rfl q⟩))
  · refine v_Mo_doors (c_Mo_isRoom (d := d) (by omega) (fun c2 => ⟨fun q => absurd q (by decide), fun _ => ?_⟩) (fun c2 => absurd (by omega) c2))
    refine c_Mo_doorsOf (d := d) w1 fun v hv hb => same _ _ (zB_ext (zrg_i hrg (k := 6) (by decide) _) hv fun k hk => ?_)
    rw [hb k hk]
    have := hP.1.2.2.2.2.2.1 a.toNat (by omega) k hk
    rw [Int.toNat_of_nonneg c.1] at this
    exact this
  · exact v_Mo_doors (c_Mo_isRoom (d := d) (by omega) (fun c2 => absurd (by omega) c) (fun c2 => ⟨fun _ => same _ _ rfl, fun q => absurd rfl q⟩))
/-- promise one -/
theorem t_one {a b : Int} (hI : Ipal mem) (hR : R mem) : zC (d + 4) K_Od_one [(2, Int.ofNat 0), (0, a), (0, b)] mem (fun r1 m1 => zC (d + 4) K_Mo_one [(2, Int.ofNat 122), (0, a), (0, b)] m1 (fun r2 m2 => (r1 = r2 → R m2) ∧ (r1 ≠ r2 → S m2))) := by
  obtain ⟨⟨w1, w2, w3, w4, w5, w6⟩, hP⟩ := id hI
  have same : ∀ x y : Int, x = y → (x = y → R mem) ∧ (x ≠ y → S mem) := fun x y e => ⟨fun _ => hR, fun q => absurd e q⟩
  refine v_Od_one (c_Pa_hasOne (d := d + 2) (Or.inl rfl) hP (fun c => ⟨fun _ => ?_, fun q => absurd q (by decide)⟩) (fun c => ⟨fun q => absurd rfl q, fun _ => ?_⟩))
  · have hWk := w5 a.toNat (by omega)
    obtain ⟨k1, k2, k3, k4⟩ := id hWk
    obtain ⟨o1, -, -, -⟩ := pOf_ok w1 w2.2 hWk
    have hmay := pOf_may w1 w2.2 hWk
    obtain ⟨z1, z2⟩ := zPa_wk (p := 1) (Or.inl rfl) (i := a.toNat) (by omega)
    have z1 : zrt 8 a.toNat = 9 + a.toNat := z1
    have z2 : zkd (9 + a.toNat) = 9 := z2
    rw [z1]
    have hWs : Ws mem (9 + a.toNat) (gR (mem 123) a.toNat) (gT (mem 123) a.toNat) (gU (mem 123) a.toNat) := hP.2.2.1 a.toNat (by omega)
    obtain ⟨s0, s1, s2⟩ := id hWs
    have i1 : zmul 3 a = 3 * a := zmul_n (by unfold zI; omega)
    have i2 : zadd 57 (3 * a) = 57 + 3 * a := zadd_n (by unfold zI; omega)
    have plain : ∀ x : Int, 0 ≤ b ∧ b ≤ 2 → x = mem 123 (57 + 3 * a.toNat + b.toNat) → zC (d + 4) K_Mo_one [(2, Int.ofNat 122), (0, a), (0, b)] mem (fun r2 m2 => (x = r2 → R m2) ∧ (x ≠ r2 → S m2)) := by
      intro x hb hx
      refine v_Mo_one (c_Mo_isOne (d := d + 1) w4.1 (fun c3 => ⟨fun q => absurd q (by decide), fun _ => ?_⟩) (fun c3 => absurd c c3))
      refine c_Mo_in (d := d + 2) (fun c4 => ⟨fun _ => ⟨fun _ => ?_, fun q => by omega⟩, fun q => absurd q (by decide)⟩) (fun c4 => absurd (by omega) c4)
      have i3 : zadd (57 + 3 * a) b = 57 + 3 * a + b := zadd_n (by unfold zI; omega)
      rw [i1, i2, i3, show (57 + 3 * a + b).toNat = 57 + 3 * a.toNat + b.toNat by omega]
      exact ⟨by omega, same _ _ hx⟩
    have orn : ∀ y : Int, (y = -4 ∨ (0 ≤ y ∧ y < gN (mem 123))) → ∀ Q' : Int → zMem → Prop, Q' y mem → zC (d + 3) K_Od_orNone [(0, zn4 y)] mem Q' := by
      intro y hy Q' hQ
      refine v_Od_orNone ⟨fun c => ?_, fun c => ?_⟩
      · unfold zn4 at c ⊢
        split at c
        · omega
        · rename_i q; rw [if_neg q]; exact hQ
      · unfold zn4 at c
        split at c
        · rename_i q; rw [q] at hQ; exact hQ
        · omega
    refine ⟨by omega, fun e => plain _ (by omega) ?_, fun e => ?_, fun e => ?_, fun e => ?_, fun e => ?_⟩
    · rw [s0, e]; rfl
    · rw [s1]
      refine orn _ (by omega) _ (plain _ (by omega) ?_)
      rw [e]
      show mem 123 (58 + 3 * a.toNat) = mem 123 (57 + 3 * a.toNat + 1)
      congr 1; omega
    · rw [s2]
      refine orn _ k3 _ (plain _ (by omega) ?_)
      rw [e]
      show mem 123 (59 + 3 * a.toNat) = mem 123 (57 + 3 * a.toNat + 2)
      congr 1; omega
    · refine c_Wa_choices (d := d + 1) z2 hP.1 w1 hWs (by omega) (by omega) k3 fun v hv hb => ?_
      refine v_Mo_one (c_Mo_isOne (d := d + 1) w4.1 (fun c3 => ⟨fun q => absurd q (by decide), fun _ => ?_⟩) (fun c3 => absurd c c3))
      refine c_Mo_in (d := d + 2) (fun c4 => ⟨fun _ => ⟨fun q => absurd e q, fun _ => ?_⟩, fun q => absurd q (by decide)⟩) (fun c4 => absurd (by omega) c4)
      refine c_Mo_placeOfOne (d := d + 1) (rm := mem 122 1) w1 w2.2 (by omega) hWk ?_
      refine c_Mo_mayTake (d := d) o1 w1 fun v2 hv2 hb2 => same _ _ (zB_ext hv hv2 fun k hk => ?_)
      rw [hb k hk, hb2 k hk, hmay k]
      exact Iff.rfl
    · refine v_Mo_one (c_Mo_isOne (d := d + 1) w4.1 (fun c3 => ⟨fun q => absurd q (by decide), fun _ => ?_⟩) (fun c3 => absurd c c3))
      exact c_Mo_in (d := d + 2) (fun c4 => by omega) (fun c4 => ⟨fun q => absurd rfl q, fun _ => same _ _ rfl⟩)
  · exact v_Mo_one (c_Mo_isOne (d := d + 1) w4.1 (fun c3 => absurd c3 c) (fun c3 => ⟨fun _ => same _ _ rfl, fun q => absurd rfl q⟩))
end
