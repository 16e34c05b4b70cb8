section
/-! palace: both agree. -/
variable {d : Nat} {mem m m' m2 : zMem} {Q : Int → zMem → Prop} {R S : zMem → Prop} {b : Nat → Int} {L : Nat} {st : zPD}
theorem pal_wf (hW : pdW st) (ha : allF st) : gWf (gWn st.1 st.2.2.2.2 (gN st.1).toNat) st.2.1 := by
  obtain ⟨x1, x2, x3, x4, x5, x6, x7, x8, x9⟩ := id hW
  obtain ⟨a1, a2, a3⟩ := ha
  have hN := x1.1
  have e : ∀ i, 56 ≤ i → gWn st.1 st.2.2.2.2 (gN st.1).toNat i = st.1 i := fun i hi => gWn_at (by omega)
  have eN : gN (gWn st.1 st.2.2.2.2 (gN st.1).toNat) = gN st.1 := e 56 (by omega)
  have eP : gP (gWn st.1 st.2.2.2.2 (gN st.1).toNat) = gP st.1 := e 72 (by omega)
  have eW : gW (gWn st.1 st.2.2.2.2 (gN st.1).toNat) = gW st.1 := e 86 (by omega)
  refine ⟨gWn_Do x1 (by unfold zI; omega) (by omega), by omega, fun k hk => ?_, by rw [eP]; exact x3, fun i hi => ?_, by rw [eW]; omega, fun i hi => ?_⟩
  · rw [eN] at hk
    have q1 : gA (gWn st.1 st.2.2.2.2 (gN st.1).toNat) k = gA st.1 k := gWn_at (by omega)
    have q2 : gB (gWn st.1 st.2.2.2.2 (gN st.1).toNat) k = gB st.1 k := gWn_at (by omega)
    rw [q1, q2]
    exact a1 k hk
  · rw [eP] at hi
    have q1 : gR (gWn st.1 st.2.2.2.2 (gN st.1).toNat) i = gR st.1 i := e _ (by omega)
    have q2 : gT (gWn st.1 st.2.2.2.2 (gN st.1).toNat) i = gT st.1 i := e _ (by omega)
    have q3 : gU (gWn st.1 st.2.2.2.2 (gN st.1).toNat) i = gU st.1 i := e _ (by omega)
    obtain ⟨y1, y2, y3⟩ := x6 i hi
    have y4 := a2 i hi
    unfold gWk
    rw [q1, q2, q3]
    exact ⟨⟨y1.1, y4⟩, Or.inl y2, Or.inl y3, fun _ => y3⟩
  · rw [eW] at hi
    omega
theorem T_palace (hI : Inv mem) (hR : ∀ m', Inv m' → R m') : zC (d + 9) K_Od_palace [(2, Int.ofNat 0)] mem (fun r1 m1 => zC (d + 9) K_Mo_palace [(2, Int.ofNat 122)] m1 (fun r2 m2 => (r1 = r2 → R m2) ∧ (r1 ≠ r2 → S m2))) := by
  obtain ⟨i1, i2, i3, t1, t2, t3, t4, t5, t6⟩ := id hI
  have hL : ((mem 53 2).toNat : Int) = mem 53 2 := by omega
  have hcB : cB mem (fun i => mem 54 i % 256) (mem 53 2).toNat := ⟨by omega, by omega, fun i hi => ⟨(t4 i (by omega)).1, rfl⟩⟩
  have hrB : ∀ m' : zMem, (∀ k, 68 < k → m' k = mem k) → rB m' (fun i => mem 54 i % 256) (mem 53 2).toNat := fun m' hk => by
    refine ⟨by rw [hk 122 (by omega)]; omega, by omega, fun i hi => ⟨?_, by dsimp only; omega, by dsimp only; omega⟩, fun i hi => by rw [hk 126 (by omega)]; exact t5 i hi, fun i hi => by rw [hk 127 (by omega)]; exact t6 i hi⟩
    rw [hk 125 (by omega)]
    exact (t4 i (by omega)).2
  generalize hb : (fun i => mem 54 i % 256) = b at hcB hrB
  generalize hLL : (mem 53 2).toNat = L at hcB hrB hL
  have bad : ∀ (c : Int) (p : Nat), palF b L = .inl (c, p) → ∀ m1 : zMem, m1 53 4 = c → m1 53 5 = (p : Int) → eFr mem m1 → ∀ m2 : zMem, m2 = zup m1 53 2 0 → zC (d + 9) K_Mo_palace [(2, Int.ofNat 122)] m2 (fun r2 m => (zsub (-10) (m2 53 5) = r2 → R m) ∧ (zsub (-10) (m2 53 5) ≠ r2 → S m)) := by
    intro c p hp m1 a1 a2 hf m2 e2
    have f2 : ∀ k, k < 53 ∨ k = 54 ∨ 68 < k → m2 k = mem k := fun k hk => by
      rw [← hf.1 k hk]; funext x; rw [e2, zup_k (by omega)]
    have s2 : m2 53 2 = 0 := by rw [e2, zup_e]
    have s4 : m2 53 4 = c := by rw [e2, zup_j (by omega), a1]
    have s5 : m2 53 5 = p := by rw [e2, zup_j (by omega), a2]
    refine c_Mo_palace (d := d + 2) (hrB m2 (fun k hk => f2 k (by omega))) (fun c' p' hp' m3 q1 q2 q3 q4 q5 q6 => ?_) (fun n st' hp' => ?_)
    · rw [hp] at hp'
      injection hp' with hp'
      injection hp' with z1 z2
      refine ⟨fun _ => hR m3 ?_, fun q => absurd (by rw [s5, z2]) q⟩
      have f3 : ∀ k, k < 53 ∨ k = 54 ∨ 68 < k → k ≠ 122 → k ≠ 124 → m3 k = mem k := fun k hk k1 k2 => by
        by_cases k3 : k = 123
        · rw [k3, q4, f2 123 (by omega)]
        · by_cases k4 : k = 142
          · rw [k4, q5, f2 142 (by omega)]
          · rw [q6.1 k k1 k3 k2 k4, f2 k hk]
      have r1 : m3 122 1 = mem 122 1 := by rw [q3, f2 122 (by omega)]
      have m53 : m3 53 = m2 53 := q6.1 53 (by omega) (by omega) (by omega) (by omega)
      refine ⟨i1.fr (fun k k1 k2 => f3 k (by omega) (by omega) (by omega)) (fun i _ => by rw [f3 123 (by omega) (by omega) (by omega)]) r1, i2.fr (by rw [f3 0 (by omega) (by omega) (by omega)]) r1 (fun i _ => by rw [f3 123 (by omega) (by omega) (by omega)]) (fun k k1 k2 => f3 k (by omega) (by omega) (by omega)) (f3 142 (by omega) (by omega) (by omega)), i3.fr (by rw [f3 0 (by omega) (by omega) (by omega)]) (by rw [q6.2, f2 122 (by omega)]) (fun k k1 k2 => f3 k (by omega) (by omega) (by omega)) (fun k k1 k2 => f3 k (by omega) (by omega) (by omega)), ?_⟩
      unfold Itp
      rw [m53, s2, s4, q1, q2, f3 126 (by omega) (by omega) (by omega), f3 127 (by omega) (by omega) (by omega)]
      exact ⟨rfl, by omega, z1, fun i hi => by omega, t5, t6⟩
    · rw [hp] at hp'
      exact absurd hp' (by simp)
  refine v_Od_palace (d := d + 8) (c_Ta_understand (d := d) hcB (fun c p h m1 a1 a2 a3 m2 e2 => ⟨fun q => absurd rfl q, fun _ => bad c p (by unfold palF; rw [h]; rfl) m1 a1 a2 a3 m2 e2⟩) (fun k st h m1 hd hW a3 a4 hf => ?_))
  refine c_Ta_closeText (d := d + 5) (L := L) hd hW a4 (by rw [hf.2, ← hL]) (fun hn m2 b1 b2 b3 => ⟨Or.inl rfl, fun m3 e3 => ⟨fun q => absurd rfl q, fun _ => bad 6 L (by unfold palF; rw [h]; exact if_neg hn) m2 b1 b2 (hf.trans b3) m3 e3⟩⟩) (fun ha m2 hP b1 b2 => ⟨Or.inr rfl, fun m3 e3 => ⟨fun _ => ?_, fun q => absurd q (by decide)⟩⟩)
  have hpal : palF b L = .inr (k, st) := by unfold palF; rw [h]; exact if_pos ha
  have hw := pal_wf hW ha
  have hf2 := hf.trans b2
  have f3 : ∀ k, k ≠ 53 → m3 k = m2 k := fun k hk => by funext x; rw [e3, zup_k hk]
  refine c_Pa_take (d := d + 6) (p := 1) (q := 55) (Or.inl ⟨rfl, rfl⟩) hw (hP.cg hw (fun _ _ => rfl) (fun k k1 k2 => f3 k (by omega))) (fun m4 hP4 f4 m5 e5 => ?_)
  have f5 : ∀ k, k ≠ 0 → m5 k = m4 k := fun k hk => by funext x; rw [e5, zup_k hk]
  have g5 : ∀ k, (14 < k ∧ k < 53) ∨ k = 54 ∨ 68 < k → m5 k = mem k := fun k hk => by rw [f5 k (by omega), f4 k (by omega), f3 k (by omega), hf2.1 k (by omega)]
  have m53 : m5 53 = m3 53 := by rw [f5 53 (by omega), f4 53 (by omega)]
  have s2 : m5 53 2 = 0 := by rw [m53, e3, zup_e]
  have s3 : m5 53 3 = k := by rw [m53, e3, zup_j (by omega), b1, a3]
  have s4 : m5 53 4 = 0 := by rw [m53, e3, zup_j (by omega), b1, a4]
  refine c_Mo_palace (d := d + 2) (hrB m5 (fun k hk => g5 k (by omega))) (fun c' p' hp' => ?_) (fun n st' hp' _ _ m6 q1 q2 q3 q4 q5 q6 q7 => ?_)
  · rw [hpal] at hp'
    exact absurd hp' (by simp)
  · rw [hpal] at hp'
    injection hp' with hp'
    injection hp' with z1 z2
    rw [← z2] at q1 q2
    refine ⟨fun _ => hR m6 ?_, fun q => absurd (by rw [s3, z1]) q⟩
    have f6 : ∀ k, k < 69 ∨ 142 < k ∨ k = 125 ∨ k = 126 ∨ k = 127 → m6 k = m5 k := fun k hk => q7.1 k (by omega) (by omega) (by omega) (by omega)
    refine ⟨⟨by rw [q2]; exact hw.cg q1, ?_⟩, ?_, i3.fr ?_ (by rw [q7.2, g5 122 (by omega)]) (fun k k1 k2 => by rw [f6 k (by omega), g5 k (by omega)]) (fun k k1 k2 => by rw [f6 k (by omega), g5 k (by omega)]), ?_⟩
    · rw [q2]
      exact hP4.cg hw q1 (fun k k1 k2 => by rw [f6 k (by omega), f5 k (by omega)])
    · have e0 : m6 0 11 = 0 := by rw [f6 0 (by omega), e5, zup_e]
      unfold Iimg
      rw [e0]
      refine ⟨by omega, fun k hk => ?_⟩
      have e : m6 142 k = 0 := by
        have : k = 0 ∨ k = 1 := by omega
        rcases this with rfl | rfl
        · exact q5
        · exact q6
      rw [e]
      exact ⟨Or.inl rfl, ⟨fun q => absurd q (zB_0 k), fun q => absurd q (by decide)⟩, fun q => absurd q (by decide)⟩
    · rw [f6 0 (by omega), e5, zup_j (by omega), f4 0 (by omega), f3 0 (by omega), hf2.1 0 (by omega)]
    · unfold Itp
      rw [f6 53 (by omega), s2, s4, q3, q4, f6 126 (by omega), f6 127 (by omega), g5 126 (by omega), g5 127 (by omega)]
      exact ⟨rfl, by omega, rfl, fun i hi => by omega, t5, t6⟩
end
