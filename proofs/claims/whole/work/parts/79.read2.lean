section
variable {d w : Nat} {mem m m' m2 : zMem} {Q : Int → zMem → Prop} {R S : zMem → Prop} {g g' : zPg} {b : zBf} {rm pl r t u p : Int} {k s : Nat}
theorem l_Mo_read (hI : Inv mem) {a l p f n : Int} (ha : 0 ≤ a ∧ a < 4) (hl : 0 ≤ l ∧ l < 3) (hp : 0 ≤ p ∧ p < gP (mem 123)) (hn : 0 ≤ n ∧ n ≤ 12) (hfz : zI f) {m0 : zMem} (e145 : m0 145 = mem 145) (e143 : m0 143 = mem 143) (e144 : m0 144 = mem 144)
    (hQ : ∀ (m' : zMem) (v r t u tn : Int), rdF (mem 123) (shF (mem (45 + 2 * a.toNat) 1) l f (mem (45 + 2 * a.toNat) 2)) (shC mem a.toNat f) n.toNat 0 (gR (mem 123) p.toNat) (gT (mem 123) p.toNat) (gU (mem 123) p.toNat) = (v, (r, t, u), tn) →
      ((0 ≤ tn ∧ wOK (mem 123) (mem 122 1) r t u ∧ m' 123 = gPut (mem 123) p.toNat r t u ∧ m' 122 43 = tn) ∨ (tn = -1 ∧ m' 123 = mem 123 ∧ m' 122 43 = m0 122 43)) → (∀ j, j ≠ 43 → m' 122 j = m0 122 j) → (∀ c, c ≠ 122 → c ≠ 123 → m' c = m0 c) → Q v m') :
    ∀ (N i : Nat) (r t u : Int) (m : zMem), i + N = n.toNat → rdF (mem 123) (shF (mem (45 + 2 * a.toNat) 1) l f (mem (45 + 2 * a.toNat) 2)) (shC mem a.toNat f) n.toNat 0 (gR (mem 123) p.toNat) (gT (mem 123) p.toNat) (gU (mem 123) p.toNat) = rdF (mem 123) (shF (mem (45 + 2 * a.toNat) 1) l f (mem (45 + 2 * a.toNat) 2)) (shC mem a.toNat f) N i r t u → wOK (mem 123) (mem 122 1) r t u → m 123 = gPut (mem 123) p.toNat r t u → (∀ c, c ≠ 123 → m c = m0 c) → zG (d + 4) M_Mo_read 92 [(2, Int.ofNat 122), (0, a), (0, l), (0, p), (0, f), (0, n), (0, 57 + 3 * p), (0, gR (mem 123) p.toNat), (0, gT (mem 123) p.toNat), (0, gU (mem 123) p.toNat), (0, 0), (0, (i : Int))] [] m Q := by
  obtain ⟨⟨w1, w2, w3, w4, w5, w6⟩, hP⟩ := id hI.1
  obtain ⟨t1, t2, t3, t4⟩ := hI.2.2.1.2 a.toNat (by omega)
  have hN := w1.1
  intro N
  induction N with
  | zero =>
    intro i r t u m hi hrd hw hg hf
    refine v_Mo_read_92 ⟨fun c m1 e1 => ?_, fun c => by omega⟩
    refine hQ m1 i r t u 0 hrd (Or.inl ⟨Int.le_refl _, hw, ?_, by rw [e1, zup_e]⟩) (fun j hj => by rw [e1, zup_j hj, hf 122 (by omega)]) (fun c h0 h1 => ?_)
    · rw [← hg]; funext j; rw [e1, zup_k (by omega)]
    · funext j; rw [e1, zup_k h0, hf c h1]
  | succ N ih =>
    intro i r t u m hi hrd hw hg hf
    have q3 : m 143 = mem 143 := by rw [hf 143 (by omega), e143]
    have q4 : m 144 = mem 144 := by rw [hf 144 (by omega), e144]
    have q5 : m 145 = mem 145 := by rw [hf 145 (by omega), e145]
    have flt : ∀ x : Int, x ≠ 0 → shF (mem (45 + 2 * a.toNat) 1) l f (mem (45 + 2 * a.toNat) 2) i = x → 0 ≤ x → zG (d + 4) M_Mo_read 92 [(2, Int.ofNat 122), (0, a), (0, l), (0, p), (0, f), (0, n), (0, 57 + 3 * p), (0, gR (mem 123) p.toNat), (0, gT (mem 123) p.toNat), (0, gU (mem 123) p.toNat), (0, x), (0, (i : Int))] [] m Q := by
      intro x hx he hx0
      rw [rdF_f (by rw [he]; exact hx), he] at hrd
      have fin : ∀ m1 : zMem, m1 = zup m 122 43 x → Q (i : Int) m1 := by
        intro m1 e1
        refine hQ m1 i r t u x hrd (Or.inl ⟨hx0, hw, ?_, by rw [e1, zup_e]⟩) (fun j hj => by rw [e1, zup_j hj, hf 122 (by omega)]) (fun c h0 h1 => ?_)
        · rw [← hg]; funext j; rw [e1, zup_k (by omega)]
        · funext j; rw [e1, zup_k h0, hf c h1]
      exact v_Mo_read_92 ⟨fun c m1 e1 => fin m1 e1, fun c => ⟨fun _ m1 e1 => fin m1 e1, fun q => absurd q hx⟩⟩
    refine v_Mo_read_92 ⟨fun c => by omega, fun c => ⟨fun q => absurd rfl q, fun _ => ?_⟩⟩
    rw [q3, q4]
    refine ⟨ha, fun c1 => ⟨ha, fun c2 => ⟨ha, ?_⟩, fun c2 => flt 3 (by decide) ?_ (by decide)⟩, fun c1 => flt 1 (by decide) ?_ (by decide)⟩
    · have hlane : mem (45 + 2 * a.toNat) 1 = l := by omega
      have hladd : zladd f (i : Int) = f + i := by
        rw [zladd_w, w64_id]
        unfold zI at hfz
        unfold zJ
        omega
      rw [hladd, zs (by omega)]
      refine c_Mo_in (d := d + 2) (fun c3 => ⟨fun _ => ?_, fun q => absurd q (by decide)⟩) (fun c3 => ⟨fun q => absurd rfl q, fun _ => flt 2 (by decide) ?_ (by decide)⟩)
      · have hfa : shF (mem (45 + 2 * a.toNat) 1) l f (mem (45 + 2 * a.toNat) 2) i = 0 := by
          unfold shF; rw [if_neg (by omega), if_neg (fun q => q hlane), if_pos (by omega)]
        rw [zm (x := 40) (by omega), za (x := 40 * a) (by omega), za (x := 40 * a + f) (by omega), q5, show (40 * a + f + (i : Int)).toNat = 40 * a.toNat + (f + (i : Int)).toNat by omega, ← t4 (f + (i : Int)).toNat (by omega)]
        have hce : mem (46 + 2 * a.toNat) (f + (i : Int)).toNat = shC mem a.toNat f i := rfl
        rw [hce]
        refine ⟨by omega, ?_⟩
        obtain ⟨e1, e2, e3⟩ := gPut_eq (g := mem 123) (p := p.toNat) (by omega) (r := r) (t := t) (u := u)
        obtain ⟨a1, a2, a3⟩ := (gPut_at (g := mem 123) (p := p.toNat) (r := r) (t := t) (u := u) p.toNat).1 rfl
        have hz4 : zn4 t < 14 := (zn4_b (by have := hw.2.1; omega)).2
        have hmay : ∀ c : Int, (0 ≤ c ∧ c < gN (mem 123)) → (gMay (m 123) (gR (m 123) p.toNat) (zn4 (gT (m 123) p.toNat)) (zn4 (gU (m 123) p.toNat)) c.toNat ↔ gMay (mem 123) r (zn4 t) (zn4 u) c.toNat) := fun c hc => by
          rw [hg, a1, a2, a3]
          exact e1.may hN.2 hz4 c.toNat
        have eN : gN (m 123) = gN (mem 123) := by rw [hg]; exact e1.N
        refine c_Mo_goes (d := d) (rm := mem 122 1) (by rw [hg]; exact e1.Do w1) w2.2 (by rw [hg, e2]; exact hp) (by omega) (by rw [hg]; exact hw.wk (by omega) hN.2) (fun hc hm m4 g4 f4 => ?_) (fun hm v hv => ⟨fun q => by omega, fun _ => ?_⟩)
        · rw [eN] at hc
          have hgo : wGo (mem 123) r t u (shC mem a.toNat f i) := ⟨hc, (hmay _ hc).mp hm⟩
          have hby : gBy (m 123) (shC mem a.toNat f i).toNat (gR (m 123) p.toNat) = gBy (mem 123) (shC mem a.toNat f i).toNat r := by
            rw [hg, a1]
            exact e1.by (by omega)
          rw [hby] at g4 ⊢
          rw [rdF_y hfa hgo] at hrd
          have hw2 := hw.step w1 w3 hc
          refine ⟨fun _ x3 e3 => ?_, fun q => by have := hw2.1.1; omega⟩
          rw [za (by omega)] at e3
          rw [e3]
          refine ih (i + 1) _ _ _ m4 (by omega) hrd hw2 ?_ (fun c h1 => by rw [f4 c h1, hf c h1])
          rw [g4, hg, a2, gPut_put]
        · have hno : ¬ wGo (mem 123) r t u (shC mem a.toNat f i) := fun q => hm ⟨by rw [eN]; exact q.1, (hmay _ q.1).mpr q.2⟩
          rw [rdF_n hfa hno] at hrd
          rw [za (x := 57 + 3 * p) (y := 1) (by omega), za (x := 57 + 3 * p) (y := 2) (by omega), show (57 + 3 * p).toNat = 57 + 3 * p.toNat by omega, show (57 + 3 * p + 1).toNat = 58 + 3 * p.toNat by omega, show (57 + 3 * p + 2).toNat = 59 + 3 * p.toNat by omega, zs (by omega)]
          refine ⟨by omega, fun m5 f5 => ⟨by omega, fun m6 f6 => ⟨by omega, fun m7 f7 => ?_⟩⟩⟩
          have h7 : m7 123 = mem 123 := by rw [zput3 f5 f6 f7, hg, gPut_put, gPut_id]
          have hfr : ∀ k, k ≠ 123 → m7 k = m0 k := fun k hk => by
            have : m7 k = m k := by funext j; rw [f7, zup_k hk, f6, zup_k hk, f5, zup_k hk]
            rw [this, hf k hk]
          exact hQ m7 _ r t u (-1) hrd (Or.inr ⟨rfl, h7, by rw [hfr 122 (by omega)]⟩) (fun j _ => by rw [hfr 122 (by omega)]) (fun c h0 h1 => hfr c h1)
      · unfold shF; rw [if_neg (by omega), if_neg (fun q => q hlane), if_neg (by omega)]
    · unfold shF; rw [if_neg (by omega), if_pos (by omega)]
    · unfold shF; rw [if_pos (by omega)]
theorem Ipal.put' {p : Nat} (hI : Ipal mem) (hp : (p : Int) < gP (mem 123)) {r t u : Int} (hk : gWk (gPut (mem 123) p r t u) (mem 122 1) p) (h1 : m' 123 = gPut (mem 123) p r t u) (h2 : Ws m' (9 + p) r t u) (h3 : ∀ k, 1 ≤ k → k ≤ 14 → k ≠ 9 + p → m' k = mem k) (hr : m' 122 1 = mem 122 1) : Ipal m' := by
  have hp5 : (p : Int) < 5 := by have := hI.1.2.2.2.1.2; omega
  have h := hI.put (m' := fun c => if c = 123 ∨ c = 9 + p then m' c else mem c) hp hk (by rw [if_pos (Or.inl rfl)]; exact h1) (by unfold Ws; dsimp only; rw [if_pos (Or.inr rfl)]; exact h2) (fun k k1 k2 => by rw [if_neg (by omega)])
  refine h.fr (fun k k1 k2 => ?_) (fun i _ => ?_) ?_
  · by_cases q : k = 9 + p
    · rw [if_pos (Or.inr q)]
    · rw [if_neg (by omega)]
      exact h3 k k1 k2 q
  · rw [if_pos (Or.inl rfl)]
  · rw [if_neg (by omega)]
    exact hr
theorem T_read {a l p f n : Int} (hI : Inv mem) (hR : ∀ m', Inv m' → R m') : zC (d + 5) K_Od_read [(2, Int.ofNat 0), (0, a), (0, l), (0, p), (0, f), (0, n)] mem (fun r1 m1 => zC (d + 5) K_Mo_read [(2, Int.ofNat 122), (0, a), (0, l), (0, p), (0, f), (0, n)] m1 (fun r2 m2 => (r1 = r2 → R m2) ∧ (r1 ≠ r2 → S m2))) := by
  refine zC.rg fun hav _ => ?_
  have hfz : zI f := zoh (zot (zot (zot (zot hav))))
  obtain ⟨⟨w1, w2, w3, w4, w5, w6⟩, hP⟩ := id hI.1
  have same : ∀ x : Int, (x = x → R mem) ∧ (x ≠ x → S mem) := fun x => ⟨fun _ => hR mem hI, fun q => absurd rfl q⟩
  have bad : ¬ ((0 ≤ a ∧ a ≤ 3) ∧ (0 ≤ l ∧ l ≤ 2) ∧ (0 ≤ n ∧ n ≤ 12) ∧ (0 ≤ p ∧ p < gP (mem 123))) → zC (d + 5) K_Mo_read [(2, Int.ofNat 122), (0, a), (0, l), (0, p), (0, f), (0, n)] mem (fun r2 m2 => (-1 = r2 → R m2) ∧ (-1 ≠ r2 → S m2)) := fun h =>
    v_Mo_read (c_Mo_in (d := d + 3) (fun c1 => ⟨fun q => absurd q (by decide), fun _ => c_Mo_in (d := d + 3) (fun c2 => ⟨fun q => absurd q (by decide), fun _ => c_Mo_in (d := d + 3) (fun c3 => ⟨fun q => absurd q (by decide), fun _ => c_Mo_isOne (d := d + 2) w4.1 (fun c4 => absurd ⟨c1, c2, c3, c4⟩ h) (fun _ => ⟨fun q => absurd rfl q, fun _ => same _⟩)⟩) (fun _ => ⟨fun _ => same _, fun q => absurd rfl q⟩)⟩) (fun _ => ⟨fun _ => same _, fun q => absurd rfl q⟩)⟩) (fun _ => ⟨fun _ => same _, fun q => absurd rfl q⟩))
  refine v_Od_read (v_Od_isSheet ⟨fun c1 => ⟨fun _ => bad (by omega), fun q => absurd rfl q⟩, fun c1 => ⟨fun c2 => ⟨fun _ => bad (by omega), fun q => absurd rfl q⟩, fun c2 => ⟨fun q => absurd q (by decide), fun _ => v_Od_isLane ⟨fun c3 => ⟨fun _ => bad (by omega), fun q => absurd rfl q⟩, fun c3 => ⟨fun c4 => ⟨fun _ => bad (by omega), fun q => absurd rfl q⟩, fun c4 => ⟨fun q => absurd q (by decide), fun _ => ⟨fun c5 => bad (by omega), fun c5 => ⟨fun c6 => bad (by omega), fun c6 => ?_⟩⟩⟩⟩⟩⟩⟩⟩)
  refine c_Pa_hasOne (d := d + 3) (Or.inl rfl) hP (fun c7 => ⟨fun _ => ⟨by omega, ?_⟩, fun q => absurd q (by decide)⟩) (fun c7 => ⟨fun q => absurd rfl q, fun _ => bad (fun q => c7 q.2.2.2)⟩)
  obtain ⟨z1, z2⟩ := zPa_wk (p := 1) (Or.inl rfl) (i := p.toNat) (by omega)
  have z1 : zrt 8 p.toNat = 9 + p.toNat := z1
  have z2 : zkd (9 + p.toNat) = 9 := z2
  rw [z1]
  have hWk := w5 p.toNat (by omega)
  have hWs : Ws mem (9 + p.toNat) (gR (mem 123) p.toNat) (gT (mem 123) p.toNat) (gU (mem 123) p.toNat) := hP.2.2.1 p.toNat (by omega)
  have hwok : wOK (mem 123) (mem 122 1) (gR (mem 123) p.toNat) (gT (mem 123) p.toNat) (gU (mem 123) p.toNat) := hWk
  refine c_Wa_take (d := d + 3) (w := 69) (by decide) z2 (by omega) (fun m1 e0 e1 e2 hf1 => ?_)
  refine l_Od_read (d := d + 1) hI ⟨c1, c2⟩ ⟨c3, c4⟩ c7 ⟨c5, c6⟩ hfz (fun m2 v r t u tn hrd hres h0 hf2 => ?_) n.toNat 0 _ _ _ m1 (by omega) rfl hwok ?_ ?_ (fun c h1 h2 => hf1 c h2)
  · have q3 : m2 123 = mem 123 := hf2 123 (by omega) (by omega) (by omega)
    have q2 : m2 122 = mem 122 := hf2 122 (by omega) (by omega) (by omega)
    refine v_Mo_read (c_Mo_in (d := d + 3) (fun _ => ⟨fun q => absurd q (by decide), fun _ => c_Mo_in (d := d + 3) (fun _ => ⟨fun q => absurd q (by decide), fun _ => c_Mo_in (d := d + 3) (fun _ => ⟨fun q => absurd q (by decide), fun _ => c_Mo_isOne (d := d + 2) (by rw [q3]; exact w4.1) (fun _ => ⟨fun _ x5 f5 => ?_, fun q => absurd q (by decide)⟩) (fun q => absurd (by rw [q3]; exact c7) q)⟩) (fun q => absurd (by omega) q)⟩) (fun q => absurd (by omega) q)⟩) (fun q => absurd (by omega) q))
    rw [zm (x := 3) (by omega), za (by omega)] at f5
    rw [f5, za (x := 57 + 3 * p) (y := 1) (by omega), za (x := 57 + 3 * p) (y := 2) (by omega), show (57 + 3 * p).toNat = 57 + 3 * p.toNat by omega, show (57 + 3 * p + 1).toNat = 58 + 3 * p.toNat by omega, show (57 + 3 * p + 2).toNat = 59 + 3 * p.toNat by omega, q3]
    refine ⟨by omega, fun x6 f6 => ⟨by omega, fun x7 f7 => ⟨by omega, fun x8 f8 => ?_⟩⟩⟩
    rw [f6, f7, f8]
    refine l_Mo_read (d := d + 1) hI ⟨c1, c2⟩ ⟨c3, c4⟩ c7 ⟨c5, c6⟩ hfz (m0 := m2) (hf2 145 (by omega) (by omega) (by omega)) (hf2 143 (by omega) (by omega) (by omega)) (hf2 144 (by omega) (by omega) (by omega)) (fun m3 v' r' t' u' tn' hrd' hres' h22 hf3 => ?_) n.toNat 0 (gR (mem 123) p.toNat) (gT (mem 123) p.toNat) (gU (mem 123) p.toNat) m2 (by omega) rfl hwok (by rw [q3, gPut_id]) (fun _ _ => rfl)
    rw [hrd] at hrd'
    have ev : v = v' := congrArg (fun x => x.1) hrd'
    have er : r = r' := congrArg (fun x => x.2.1.1) hrd'
    have et : t = t' := congrArg (fun x => x.2.1.2.1) hrd'
    have eu : u = u' := congrArg (fun x => x.2.1.2.2) hrd'
    have en : tn = tn' := congrArg (fun x => x.2.2) hrd'
    subst er; subst et; subst eu; subst en
    refine ⟨fun _ => hR m3 ?_, fun q => absurd ev q⟩
    have hfr : ∀ c, c ≠ 0 → c ≠ 9 + p.toNat → c ≠ 69 → c ≠ 122 → c ≠ 123 → m3 c = mem c := fun c y1 y2 y3 y4 y5 => by rw [hf3 c y4 y5, hf2 c y1 y2 y3]
    have hr1 : ∀ j, j ≠ 43 → m3 122 j = mem 122 j := fun j hj => by rw [h22 j hj, q2]
    have h012 : m3 0 = m2 0 := hf3 0 (by omega) (by omega)
    have hw9 : m3 (9 + p.toNat) = m2 (9 + p.toNat) := hf3 _ (by omega) (by omega)
    have common : ∀ (G : zPg), m3 123 = G → (∀ i, ¬ (57 ≤ i ∧ i < 72) → G i = mem 123 i) → Ipal m3 → m3 0 12 = m3 122 43 → Inv m3 := by
      intro G hG hout hpal htn
      refine ⟨hpal, hI.2.1.fr (by rw [h012, h0 11 (by omega)]) (hr1 1 (by omega)) (fun i hi => by rw [hG, hout i (by omega)]) (fun k k1 k2 => hfr k (by omega) (by omega) (by omega) (by omega) (by omega)) (hfr 142 (by omega) (by omega) (by omega) (by omega) (by omega)), ?_, hI.2.2.2.fr (hr1 10 (by omega)) (hr1 11 (by omega)) (by rw [hfr 53 (by omega) (by omega) (by omega) (by omega) (by omega)]) (by rw [hfr 53 (by omega) (by omega) (by omega) (by omega) (by omega)]) (hfr 54 (by omega) (by omega) (by omega) (by omega) (by omega)) (fun k k1 k2 => hfr k (by omega) (by omega) (by omega) (by omega) (by omega))⟩
      refine ⟨htn, fun k hk => ?_⟩
      rw [hfr (45 + 2 * k) (by omega) (by omega) (by omega) (by omega) (by omega), hfr (46 + 2 * k) (by omega) (by omega) (by omega) (by omega) (by omega), hfr 143 (by omega) (by omega) (by omega) (by omega) (by omega), hfr 144 (by omega) (by omega) (by omega) (by omega) (by omega), hfr 145 (by omega) (by omega) (by omega) (by omega) (by omega)]
      exact hI.2.2.1.2 k hk
    rcases hres with ⟨y1, y2, y3, y4⟩ | ⟨y1, y3, y4⟩
    · rcases hres' with ⟨x1, x2, x3, x4⟩ | ⟨x1, -⟩
      · refine common _ x3 (fun i hi => gPut_out (by omega) hi) ?_ (by rw [h012, y4, x4])
        refine hI.1.put' (p := p.toNat) (by omega) (y2.wk (by omega) w1.1.2) x3 ?_ (fun k k1 k2 k3 => hfr k (by omega) k3 (by omega) (by omega) (by omega)) (hr1 1 (by omega))
        unfold Ws at y3 ⊢
        rw [hw9]
        exact y3
      · omega
    · rcases hres' with ⟨x1, -⟩ | ⟨x1, x3, x4⟩
      · omega
      · refine common _ x3 (fun i hi => rfl) (hI.1.put' (p := p.toNat) (by omega) (r := gR (mem 123) p.toNat) (t := gT (mem 123) p.toNat) (u := gU (mem 123) p.toNat) (by rw [gPut_id]; exact hWk) (by rw [gPut_id]; exact x3) ?_ (fun k k1 k2 k3 => hfr k (by omega) k3 (by omega) (by omega) (by omega)) (hr1 1 (by omega))) (by rw [h012, y4, x4, q2]; exact hI.2.2.1.1)
        unfold Ws at y3 ⊢
        rw [hw9]
        exact y3
  · unfold Ws at hWs ⊢
    rw [hf1 _ (by omega)]
    exact hWs
  · exact ⟨by rw [e0]; exact hWs.1, by rw [e1]; exact hWs.2.1, by rw [e2]; exact hWs.2.2⟩
end
