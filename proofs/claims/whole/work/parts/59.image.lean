section
variable {d : Nat} {mem m' m2 : zMem} {Q : Int → zMem → Prop} {R S : zMem → Prop} {g g' : zPg} {rm : Int}
theorem zPP_ap {p q : Nat} (h : zPP p q) : zPa p ∧ zPa q ∧ zHH (p + 1) (q + 1) ∧ (q + 13 < p ∨ p + 13 < q) := by
  unfold zPa zHH
  rcases h with ⟨rfl, rfl⟩ | ⟨rfl, rfl⟩ | ⟨rfl, rfl⟩ | ⟨rfl, rfl⟩ | ⟨rfl, rfl⟩ <;> omega
theorem l_Pa_take {p q : Nat} (hpq : zPP p q) (hw : gWf g rm) (hP : Ps mem q g rm) (hQ : ∀ m', Ps m' p g rm → (∀ k, k < p ∨ p + 13 < k → m' k = mem k) → Q 0 m') : ∀ (n : Nat) (i : Nat) (m : zMem), i + n = 5 → Hs m (p + 1) g rm → m p 2 = gP g → (∀ j, j < i → ∀ s, s < 3 → m (p + 8 + j) s = mem (q + 8 + j) s) → (∀ k, k < p ∨ p + 13 < k → m k = mem k) → zG (d + 2) M_Pa_take 21 [(2, Int.ofNat p), (2, Int.ofNat q), (0, (i : Int))] [] m Q := by
  obtain ⟨ap, aq, ah, apq⟩ := zPP_ap hpq
  obtain ⟨p1, p2, p3, p4, p5⟩ := hP
  have hgP := hw.2.2.2.1
  have hgW := hw.2.2.2.2.2.1
  intro n
  induction n with
  | zero =>
    intro i m hi hH h2 h3 hf
    refine v_Pa_take_21 hpq ⟨fun c m1 e1 m2 e2 => ?_, fun c => by omega⟩
    have f1 : ∀ k, k ≠ p + 13 → m1 k = m k := fun k hk => by funext j; rw [e1, zcp_k hk]
    have f2 : ∀ k, k ≠ p + 13 → k ≠ p → m2 k = m k := fun k hk hk2 => by funext j; rw [e2, zup_k hk2, f1 k hk]
    refine hQ m2 ⟨hH.fr (fun k k1 k2 => f2 k (by omega) (by omega)), ?_, fun j hj => ?_, ?_, fun j hj => ?_⟩ (fun k hk => ?_)
    · rw [e2, zup_j (by omega), f1 p (by omega), h2]
    · have := p3 j hj
      unfold Ws at this ⊢
      rw [f2 (p + 8 + j) (by omega) (by omega), h3 j (by omega) 0 (by omega), h3 j (by omega) 1 (by omega), h3 j (by omega) 2 (by omega)]
      exact this
    · rw [e2, zup_e, f1 q (by omega), hf q (by omega)]
      exact p4
    · rw [e2, zup_k (by omega), e1, zcp_e (by omega), hf (q + 13) (by omega)]
      exact p5 j hj
    · rw [f2 k (by omega) (by omega), hf k hk]
  | succ n ih =>
    intro i m hi hH h2 h3 hf
    refine v_Pa_take_21 hpq ⟨fun c => by omega, fun c => ⟨by omega, by omega, ?_⟩⟩
    obtain ⟨w1, w2⟩ := zPa_wk ap (i := i) (by omega)
    obtain ⟨w3, w4⟩ := zPa_wk aq (i := i) (by omega)
    rw [Int.toNat_natCast, w1, w3]
    refine c_Wa_take (d := d) w2 w4 (by omega) (fun m3 e0 e1 e2 hk x2 ex => ?_)
    rw [za (by omega)] at ex
    rw [ex]
    refine ih (i + 1) m3 (by omega) (hH.fr (fun k k1 k2 => hk k (by omega))) (by rw [hk p (by omega)]; exact h2) (fun j hj s hs => ?_) (fun k k1 => by rw [hk k (by omega), hf k k1])
    by_cases hji : j = i
    · rw [hji]
      have : s = 0 ∨ s = 1 ∨ s = 2 := by omega
      rcases this with rfl | rfl | rfl
      · rw [e0, hf (q + 8 + i) (by omega)]
      · rw [e1, hf (q + 8 + i) (by omega)]
      · rw [e2, hf (q + 8 + i) (by omega)]
    · rw [hk (p + 8 + j) (by omega)]
      exact h3 j (by omega) s hs
theorem c_Pa_take {p q : Nat} (hpq : zPP p q) (hw : gWf g rm) (hP : Ps mem q g rm) (hQ : ∀ m', Ps m' p g rm → (∀ k, k < p ∨ p + 13 < k → m' k = mem k) → Q 0 m') : zC (d + 2) K_Pa_take [(2, Int.ofNat p), (2, Int.ofNat q)] mem Q := by
  obtain ⟨ap, aq, ah, apq⟩ := zPP_ap hpq
  refine v_Pa_take hpq (c_Ho_take (d := d) ah hP.1 hw.1 (fun m1 hH hf m2 e2 => ?_))
  have f2 : ∀ k, k ≠ p → m2 k = m1 k := fun k hk => by funext j; rw [e2, zup_k hk]
  refine l_Pa_take hpq hw hP hQ 5 0 m2 (by omega) (hH.fr (fun k k1 k2 => f2 k (by omega))) ?_ (fun j hj => by omega) (fun k hk => ?_)
  · rw [e2, zup_e, hf q (by omega)]
    exact hP.2.1
  · rw [f2 k (by omega), hf k (by omega)]
theorem zcp_s {k s t dp n : Nat} (h : k ≠ t ∨ (s + n < dp ∨ dp + n ≤ s + n ∧ dp + n ≤ s)) : zup (zcp mem k s t dp n) t (dp + n) (zcp mem k s t dp n k (s + n)) = zcp mem k s t dp (n + 1) := by
  have hv : zcp mem k s t dp n k (s + n) = mem k (s + n) := by
    unfold zcp
    rw [if_neg]
    rintro ⟨q1, q2, q3⟩
    omega
  rw [hv]
  funext a i
  unfold zup zcp
  by_cases ha : a = t
  · by_cases hi : i = dp + n
    · rw [if_pos ⟨ha, hi⟩, if_pos ⟨ha, by omega⟩]
      congr 1
      omega
    · rw [if_neg (fun q => hi q.2)]
      by_cases h2 : dp ≤ i ∧ i < dp + n
      · rw [if_pos ⟨ha, h2⟩, if_pos ⟨ha, by omega⟩]
      · rw [if_neg (fun q => h2 q.2), if_neg (fun q => h2 (by omega))]
  · rw [if_neg (fun q => ha q.1), if_neg (fun q => ha q.1), if_neg (fun q => ha q.1)]
theorem zcp_0 {k s t dp : Nat} : zcp mem k s t dp 0 = mem := by
  funext a i
  unfold zcp
  rw [if_neg (by omega)]
theorem l_Mo_copies {a b : Nat} (h : a + 88 ≤ b ∨ b + 88 ≤ a) (ha : a + 88 ≤ 264) (hb : b + 88 ≤ 264) (hQ : Q 0 (zcp mem 123 a 123 b 88)) : ∀ (n i : Nat), i + n = 88 → zG (d + 1) M_Mo_copies 2 [(2, Int.ofNat 122), (0, (a : Int)), (0, (b : Int)), (0, (i : Int))] [] (zcp mem 123 a 123 b i) Q
  | 0, i, hi => by
    refine v_Mo_copies_2 ⟨fun _ => ?_, fun c => by omega⟩
    rw [show i = 88 by omega]
    exact hQ
  | n + 1, i, hi => by
    refine v_Mo_copies_2 ⟨fun c => by omega, fun c => ?_⟩
    rw [za (x := a) (by omega), za (x := b) (by omega), show ((a : Int) + i).toNat = a + i by omega, show ((b : Int) + i).toNat = b + i by omega]
    refine ⟨by omega, by omega, fun m1 e1 x1 f1 => ?_⟩
    rw [za (by omega)] at f1
    rw [zcp_s (by omega)] at e1
    rw [e1, f1]
    exact l_Mo_copies h ha hb hQ n (i + 1) (by omega)
theorem c_Mo_copies {a b : Int} (h : a + 88 ≤ b ∨ b + 88 ≤ a) (ha : 0 ≤ a ∧ a + 88 ≤ 264) (hb : 0 ≤ b ∧ b + 88 ≤ 264) (hQ : ∀ m', (∀ i, i < 88 → m' 123 (b.toNat + i) = mem 123 (a.toNat + i)) → (∀ i, ¬ (b.toNat ≤ i ∧ i < b.toNat + 88) → m' 123 i = mem 123 i) → (∀ k, k ≠ 123 → m' k = mem k) → Q 0 m') : zC (d + 1) K_Mo_copies [(2, Int.ofNat 122), (0, a), (0, b)] mem Q := by
  have := l_Mo_copies (d := d) (mem := mem) (Q := Q) (a := a.toNat) (b := b.toNat) (by omega) (by omega) (by omega) (hQ _ (fun i hi => ?_) (fun i hi => ?_) (fun k hk => ?_)) 88 0 (by omega)
  · rw [zcp_0, Int.toNat_of_nonneg ha.1, Int.toNat_of_nonneg hb.1] at this
    exact v_Mo_copies this
  · unfold zcp
    rw [if_pos ⟨rfl, by omega⟩]
    congr 1
    omega
  · unfold zcp
    rw [if_neg (fun q => hi q.2)]
  · rw [zcp_o _ _ _ _ _ _ _ hk]
theorem zIm_rt {a : Int} (h : 0 ≤ a ∧ a < 2) : zrt 15 a.toNat = 16 + 14 * a.toNat ∧ zPP (16 + 14 * a.toNat) 1 ∧ zPP 1 (16 + 14 * a.toNat) := by
  have key : ∀ k, k < 2 → zrt 15 k = 16 + 14 * k := by decide +kernel
  refine ⟨key a.toNat (by omega), ?_, ?_⟩ <;> unfold zPP <;> omega
theorem T_keep {a : Int} (hI : Inv mem) (hR : ∀ m', Inv m' → R m') : zC (d + 3) K_Od_keep [(2, Int.ofNat 0), (0, a)] mem (fun r1 m1 => zC (d + 3) K_Mo_keep [(2, Int.ofNat 122), (0, a)] m1 (fun r2 m2 => (r1 = r2 → R m2) ∧ (r1 ≠ r2 → S m2))) := by
  have same : ∀ x : Int, (x = x → R mem) ∧ (x ≠ x → S mem) := fun x => ⟨fun _ => hR mem hI, fun q => absurd rfl q⟩
  have bad : ¬ (0 ≤ a ∧ a ≤ 1) → zC (d + 3) K_Mo_keep [(2, Int.ofNat 122), (0, a)] mem (fun r2 m2 => (-1 = r2 → R m2) ∧ (-1 ≠ r2 → S m2)) := fun h =>
    v_Mo_keep (c_Mo_in (d := d + 1) (fun c1 => absurd c1 h) (fun _ => ⟨fun q => absurd rfl q, fun _ => same _⟩))
  refine v_Od_keep ⟨fun c => bad (by omega), fun c => ⟨fun c2 x1 e1 => ⟨by omega, ?_⟩, fun c2 => bad (by omega)⟩⟩
  obtain ⟨z1, z2, -⟩ := zIm_rt ⟨c, c2⟩
  rw [z1]
  obtain ⟨hw, hP⟩ := id hI.1
  have hk0 := hI.2.1.1
  obtain ⟨i1, i2, i3⟩ := hI.2.1.2 a.toNat (by omega)
  have hz : zI (mem 0 11) := by unfold zI; omega
  refine c_Pa_take (d := d) z2 hw hP (fun m1 hP1 hf1 m2 e2 => ?_)
  have f2 : ∀ k, k ≠ 0 → m2 k = m1 k := fun k hk => by funext j; rw [e2, zup_k hk]
  refine v_Mo_keep (c_Mo_in (d := d + 1) (fun _ => ⟨fun _ => ?_, fun q => absurd q (by decide)⟩) (fun q => absurd (by omega) q))
  rw [za (x := a) (by omega), zm (by omega)]
  refine c_Mo_copies (d := d + 1) (by omega) (by omega) (by omega) (fun m3 g1 g2 g3 => ?_)
  have q142 : m3 142 = mem 142 := by rw [g3 142 (by omega), f2 142 (by omega), hf1 142 (by omega)]
  have q123 : m2 123 = mem 123 := by rw [f2 123 (by omega), hf1 123 (by omega)]
  have hx : x1 = 0 ∧ mem 142 a.toNat = 0 ∨ x1 = 1 ∧ mem 142 a.toNat = 1 := by
    rcases i1 with q | q
    · left
      refine ⟨?_, q⟩
      rw [e1, zB_test hz c (by omega), i2]
      omega
    · right
      refine ⟨?_, q⟩
      rw [e1, zB_test1 hz c (by omega), i2]
      exact q
  have fin : ∀ m4 : zMem, m4 = zup m3 142 a.toNat 1 → Inv m4 := by
    intro m4 e4
    have hf : ∀ k, k ≠ 142 → k ≠ 123 → k ≠ 0 → (k < 16 + 14 * a.toNat ∨ 16 + 14 * a.toNat + 13 < k) → m4 k = mem k := fun k k1 k2 k3 k4 => by
      have : m4 k = m3 k := by funext j; rw [e4, zup_k k1]
      rw [this, g3 k k2, f2 k k3, hf1 k k4]
    have h123 : m4 123 = m3 123 := by funext j; rw [e4, zup_k (by omega)]
    have hlo : ∀ i, i < 88 → m4 123 i = mem 123 i := fun i hi => by rw [h123, g2 i (by omega), q123]
    have h0 : ∀ j, j ≠ 11 → m4 0 j = mem 0 j := fun j hj => by rw [e4, zup_k (by omega), g3 0 (by omega), e2, zup_j hj, hf1 0 (by omega)]
    have h11 : m4 0 11 = zor (mem 0 11) (zshl 1 a) := by rw [e4, zup_k (by omega), g3 0 (by omega), e2, zup_e, hf1 0 (by omega)]
    refine ⟨hI.1.fr (fun k k1 k2 => hf k (by omega) (by omega) (by omega) (by omega)) hlo (by rw [hf 122 (by omega) (by omega) (by omega) (by omega)]), ⟨?_, fun k hk => ?_⟩, hI.2.2.1.fr (h0 12 (by omega)) (by rw [hf 122 (by omega) (by omega) (by omega) (by omega)]) (fun k k1 k2 => hf k (by omega) (by omega) (by omega) (by omega)) (fun k k1 k2 => hf k (by omega) (by omega) (by omega) (by omega)), hI.2.2.2.fr (by rw [hf 122 (by omega) (by omega) (by omega) (by omega)]) (by rw [hf 122 (by omega) (by omega) (by omega) (by omega)]) (by rw [hf 53 (by omega) (by omega) (by omega) (by omega)]) (by rw [hf 53 (by omega) (by omega) (by omega) (by omega)]) (hf 54 (by omega) (by omega) (by omega) (by omega)) (fun k k1 k2 => hf k (by omega) (by omega) (by omega) (by omega))⟩
    · rw [h11]
      have : 0 ≤ zor (mem 0 11) (zshl 1 a) ∧ zor (mem 0 11) (zshl 1 a) < 2 ^ 2 := by
        refine zB_small (zor_I _ _) (by omega) (fun j hj hj2 => ?_)
        rw [(zB_put hj2 c (by omega)).1]
        rintro (q | q)
        · exact zB_of_lt hk0.1 (n := 2) (by omega) (by omega) hj q
        · omega
      omega
    · rw [h11, hf 122 (by omega) (by omega) (by omega) (by omega), (zB_put (by omega) c (by omega)).1]
      by_cases hka : k = a.toNat
      · subst hka
        have e5 : m4 142 a.toNat = 1 := by rw [e4, zup_e]
        refine ⟨Or.inr e5, ⟨fun _ => e5, fun _ => Or.inr (by omega)⟩, fun _ => ?_⟩
        have hg : ∀ i, i < 88 → gIm m4 a.toNat i = mem 123 i := fun i hi => by
          show m4 123 (88 * (a.toNat + 1) + i) = _
          rw [h123, show 88 * (a.toNat + 1) + i = (88 * (a + 1)).toNat + i by omega, g1 i hi, q123]
          congr 1
          omega
        refine ⟨hw.cg hg, hP1.cg hw hg (fun k k1 k2 => ?_)⟩
        have : m4 k = m3 k := by funext j; rw [e4, zup_k (by omega)]
        rw [this, g3 k (by omega), f2 k (by omega)]
      · have e5 : m4 142 k = mem 142 k := by rw [e4, zup_j hka, q142]
        obtain ⟨j1, j2, j3⟩ := hI.2.1.2 k hk
        rw [e5]
        refine ⟨j1, ⟨fun q => j2.mp (q.resolve_right (by omega)), fun q => Or.inl (j2.mpr q)⟩, fun q => ?_⟩
        obtain ⟨w, P⟩ := j3 q
        have hg : ∀ i, i < 88 → gIm m4 k i = gIm mem k i := fun i hi => by
          show m4 123 (88 * (k + 1) + i) = mem 123 (88 * (k + 1) + i)
          rw [h123, g2 _ (by omega), q123]
        exact ⟨w.cg hg, P.cg w hg (fun k k1 k2 => hf k (by omega) (by omega) (by omega) (by omega))⟩
  rw [q142]
  refine ⟨by omega, fun c3 => ⟨by omega, fun m4 e4 => ⟨fun _ => hR m4 (fin m4 e4), fun q => absurd (by omega) q⟩⟩, fun c3 => ⟨by omega, fun m4 e4 => ⟨fun _ => hR m4 (fin m4 e4), fun q => absurd (by omega) q⟩⟩⟩
theorem T_back {a : Int} (hI : Inv mem) (hR : ∀ m', Inv m' → R m') : zC (d + 3) K_Od_back [(2, Int.ofNat 0), (0, a)] mem (fun r1 m1 => zC (d + 3) K_Mo_back [(2, Int.ofNat 122), (0, a)] m1 (fun r2 m2 => (r1 = r2 → R m2) ∧ (r1 ≠ r2 → S m2))) := by
  have same : ∀ x : Int, (x = x → R mem) ∧ (x ≠ x → S mem) := fun x => ⟨fun _ => hR mem hI, fun q => absurd rfl q⟩
  have bad : ¬ (0 ≤ a ∧ a ≤ 1) → zC (d + 3) K_Mo_back [(2, Int.ofNat 122), (0, a)] mem (fun r2 m2 => (-1 = r2 → R m2) ∧ (-1 ≠ r2 → S m2)) := fun h =>
    v_Mo_back (c_Mo_in (d := d + 1) (fun c1 => absurd c1 h) (fun _ => ⟨fun q => absurd rfl q, fun _ => same _⟩))
  have hk0 := hI.2.1.1
  have hz : zI (mem 0 11) := by unfold zI; omega
  refine v_Od_back ⟨fun c => bad (by omega), fun c => ⟨fun c2 => ⟨fun c3 => ⟨by omega, ?_⟩, fun c3 => ?_⟩, fun c2 => bad (by omega)⟩⟩
  · obtain ⟨z1, -, z2⟩ := zIm_rt ⟨c, c2⟩
    rw [z1]
    obtain ⟨i1, i2, i3⟩ := hI.2.1.2 a.toNat (by omega)
    rw [zB_ne hz c (by omega), i2] at c3
    obtain ⟨hw, hP⟩ := i3 c3
    refine c_Pa_take (d := d) z2 hw hP (fun m1 hP1 hf1 => ?_)
    refine v_Mo_back (c_Mo_in (d := d + 1) (fun _ => ⟨fun _ => ⟨by omega, fun _ => ?_, fun q => ?_⟩, fun q => absurd q (by decide)⟩) (fun q => absurd (by omega) q))
    · rw [za (x := a) (by omega), zm (by omega)]
      refine c_Mo_copies (d := d + 1) (by omega) (by omega) (by omega) (fun m3 g1 g2 g3 => c_Mo_doorMany (d := d + 1) ?_)
      have hg : ∀ i, i < 88 → m3 123 i = gIm mem a.toNat i := fun i hi => by
        have := g1 i hi
        rw [show (0 : Int).toNat + i = i by omega] at this
        rw [this, hf1 123 (by omega)]
        show mem 123 ((88 * (a + 1)).toNat + i) = mem 123 (88 * (a.toNat + 1) + i)
        congr 1
        omega
      have hhi : ∀ i, 88 ≤ i → m3 123 i = mem 123 i := fun i hi => by rw [g2 i (by omega), hf1 123 (by omega)]
      have hf : ∀ k, k ≠ 123 → (k < 1 ∨ 14 < k) → m3 k = mem k := fun k k1 k2 => by rw [g3 k k1, hf1 k (by omega)]
      have hr : m3 122 = mem 122 := hf 122 (by omega) (by omega)
      refine ⟨fun _ => hR m3 (hI.fr ?_ (hf 0 (by omega) (by omega)) (fun j _ => by rw [hr]) hhi (fun k k1 k2 => hf k (by omega) (by omega)) (fun k k1 k2 => hf k (by omega) (by omega)) (fun k k1 k2 => hf k (by omega) (by omega))), fun q => absurd ?_ q⟩
      · unfold Ipal
        rw [hr]
        exact ⟨hw.cg hg, hP1.cg hw hg (fun k k1 k2 => g3 k (by omega))⟩
      · rw [hg 56 (by omega)]
        exact hP1.1.2.2.1
    · rw [hf1 142 (by omega)] at q
      omega
  · obtain ⟨i1, i2, i3⟩ := hI.2.1.2 a.toNat (by omega)
    rw [zB_test hz c (by omega), i2] at c3
    exact v_Mo_back (c_Mo_in (d := d + 1) (fun _ => ⟨fun _ => ⟨by omega, fun q => absurd (by omega) c3, fun _ => same _⟩, fun q => absurd q (by decide)⟩) (fun q => absurd (by omega) q))
end
