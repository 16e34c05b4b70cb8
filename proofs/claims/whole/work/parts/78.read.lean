section
variable {d w : Nat} {mem m m' m2 : zMem} {Q : Int → zMem → Prop} {R S : zMem → Prop} {g g' : zPg} {b : zBf} {rm pl r t u p : Int} {k s : Nat}
theorem gEq.may (h : gEq g g') (hN : gN g ≤ 14) {l a : Int} (hl : l < 14) (j : Nat) : gMay g' r l a j ↔ gMay g r l a j := by
  unfold gMay
  rw [h.O hN]
  refine and_congr_right fun ho => not_congr ?_
  unfold gBar
  rw [h.L]
  have hj : j < 14 := by have : (j : Int) < gN g := ho.1; omega
  by_cases q : 0 ≤ l
  · rw [(h.at hj).2.2.1, (h.at (k := l.toNat) (by omega)).2.2.1]
  · exact ⟨fun z => absurd z.1 q, fun z => absurd z.1 q⟩
theorem gEq.by (h : gEq g g') (hk : k < 14) : gBy g' k r = gBy g k r := by
  unfold gBy
  rw [(h.at hk).1, (h.at hk).2.1]
theorem gPut_put {i : Nat} {r t u r' t' u' : Int} : gPut (gPut g i r t u) i r' t' u' = gPut g i r' t' u' := by
  funext j
  unfold gPut
  by_cases c1 : j = 57 + 3 * i
  · simp only [if_pos c1]
  · by_cases c2 : j = 58 + 3 * i
    · simp only [if_neg c1, if_pos c2]
    · by_cases c3 : j = 59 + 3 * i
      · simp only [if_neg c1, if_neg c2, if_pos c3]
      · simp only [if_neg c1, if_neg c2, if_neg c3]
theorem gPut_id {i : Nat} : gPut g i (gR g i) (gT g i) (gU g i) = g := by
  funext j
  unfold gPut gR gT gU
  by_cases c1 : j = 57 + 3 * i
  · rw [if_pos c1, c1]
  · rw [if_neg c1]
    by_cases c2 : j = 58 + 3 * i
    · rw [if_pos c2, c2]
    · rw [if_neg c2]
      by_cases c3 : j = 59 + 3 * i
      · rw [if_pos c3, c3]
      · rw [if_neg c3]
/-- a step of a ONE on the page -/
theorem c_Mo_goes {a c : Int} (hD : gDo (mem 123)) (hrm : rm ≤ 10) (ha : 0 ≤ a ∧ a < gP (mem 123)) (ha5 : a < 5) (hWk : gWk (mem 123) rm a.toNat)
    (hQ1 : 0 ≤ c ∧ c < gN (mem 123) → gMay (mem 123) (gR (mem 123) a.toNat) (zn4 (gT (mem 123) a.toNat)) (zn4 (gU (mem 123) a.toNat)) c.toNat → ∀ m' : zMem, m' 123 = gPut (mem 123) a.toNat (gBy (mem 123) c.toNat (gR (mem 123) a.toNat)) c (gT (mem 123) a.toNat) → (∀ k, k ≠ 123 → m' k = mem k) → Q (gBy (mem 123) c.toNat (gR (mem 123) a.toNat)) m')
    (hQ0 : ¬ ((0 ≤ c ∧ c < gN (mem 123)) ∧ gMay (mem 123) (gR (mem 123) a.toNat) (zn4 (gT (mem 123) a.toNat)) (zn4 (gU (mem 123) a.toNat)) c.toNat) → ∀ v, v < 0 → Q v mem) : zC (d + 3) K_Mo_goes [(2, Int.ofNat 122), (0, a), (0, c)] mem Q := by
  have hN := hD.1
  have hpr := pRep.one hD hrm hWk
  obtain ⟨k1, k2, k3, k4⟩ := id hWk
  refine v_Mo_goes (c_Mo_isOne (d := d) (show 0 ≤ gP (mem 123) by omega) (fun _ => ⟨fun q => absurd q (by decide), fun _ => ?_⟩) (fun q => absurd ha q))
  refine c_Mo_isDoor (d := d) hN.1 (fun c2 => ⟨fun _ => ?_, fun q => absurd q (by decide)⟩) (fun c2 => ⟨fun q => absurd rfl q, fun _ => hQ0 (fun q => c2 q.1) _ (by decide)⟩)
  have c2 : 0 ≤ c ∧ c < gN (mem 123) := c2
  refine c_Mo_placeOfOne (d := d) (rm := rm) hD hrm (by omega) hWk ?_
  have hcn : ((c.toNat : Nat) : Int) < gN (mem 123) := by omega
  refine c_Mo_stepped (d := d) hpr.1 hD c2 (fun hm => ⟨fun _ => ?_, fun q => ?_⟩) (fun hm => ⟨fun q => absurd rfl q, fun _ => hQ0 (fun q => hm ((hpr.may _).mpr q.2)) _ (by decide)⟩)
  · obtain ⟨s1, s2, s3, s4, s5⟩ := pStep_ok hD hpr.1 (d := c.toNat) hcn
    refine c_Mo_roomAt (d := d + 1) ⟨s1.1, s1.2.1⟩ ?_
    rw [s3, hpr.2.1, zm (x := 3) (by omega), za (x := 57) (by omega), za (x := 57 + 3 * a) (y := 1) (by omega), za (x := 57 + 3 * a) (y := 2) (by omega), show (57 + 3 * a).toNat = 57 + 3 * a.toNat by omega, show (57 + 3 * a + 1).toNat = 58 + 3 * a.toNat by omega, show (57 + 3 * a + 2).toNat = 59 + 3 * a.toNat by omega]
    refine ⟨by omega, fun m6 f6 => ⟨by omega, by omega, fun m7 f7 => ⟨by omega, fun m8 f8 => ?_⟩⟩⟩
    have hold : m6 123 (58 + 3 * a.toNat) = gT (mem 123) a.toNat := by rw [f6, zup_j (by omega)]; rfl
    rw [hold] at f7
    have h123 := zput3' f6 f7 f8
    have hfr : ∀ k, k ≠ 123 → m8 k = mem k := fun k hk => by funext i; rw [f8, zup_k hk, f7, zup_k hk, f6, zup_k hk]
    refine c_Mo_roomAt (d := d + 1) ⟨s1.1, s1.2.1⟩ ?_
    obtain ⟨-, y2⟩ := pStep_at (g := mem 123) (pl := pOf (mem 123) a.toNat) (k := c.toNat) (by omega) (by rw [hpr.2.2.1]; omega)
    rw [y2 (m8 123) (fun i hi => by rw [h123, gPut_out (by omega) (by omega)]), hpr.2.1]
    exact hQ1 c2 ((hpr.may _).mp hm) m8 h123 hfr
  · have := (hpr.step hD hcn).1.1
    omega
/-- somebody well placed -/
def wOK (g : zPg) (rm r t u : Int) : Prop := (0 ≤ r ∧ r < rm) ∧ (t = -4 ∨ (0 ≤ t ∧ t < gN g ∧ (gA g t.toNat = r ∨ gB g t.toNat = r))) ∧ (u = -4 ∨ (0 ≤ u ∧ u < gN g)) ∧ (t = -4 → u = -4)
theorem wOK.step (hD : gDo g) (hrr : ∀ k : Nat, (k : Int) < gN g → gA g k < rm ∧ gB g k < rm) (h : wOK g rm r t u) {c : Int} (hc : 0 ≤ c ∧ c < gN g) : wOK g rm (gBy g c.toNat r) c t := by
  obtain ⟨da, db, -⟩ := hD.2.2 c.toNat (by omega)
  obtain ⟨ra, rb⟩ := hrr c.toNat (by omega)
  obtain ⟨h1, h2, h3, h4⟩ := h
  refine ⟨by unfold gBy; split <;> omega, Or.inr ⟨hc.1, hc.2, ?_⟩, by omega, fun q => by omega⟩
  unfold gBy
  split
  · exact Or.inr rfl
  · exact Or.inl rfl
theorem wOK.wk (h : wOK g rm r t u) {i : Nat} (hi : i < 5) (hN : gN g ≤ 14) : gWk (gPut g i r t u) rm i := by
  obtain ⟨a1, a2, a3⟩ := (gPut_at (g := g) (p := i) (r := r) (t := t) (u := u) i).1 rfl
  obtain ⟨e1, -, -⟩ := gPut_eq (g := g) (p := i) hi (r := r) (t := t) (u := u)
  unfold gWk
  rw [a1, a2, a3, e1.N]
  obtain ⟨h1, h2, h3, h4⟩ := h
  refine ⟨h1, ?_, h3, h4⟩
  rcases h2 with q | ⟨q1, q2, q3⟩
  · exact Or.inl q
  · obtain ⟨x1, x2, -, -⟩ := e1.at (k := t.toNat) (by omega)
    rw [x1, x2]
    exact Or.inr ⟨q1, q2, q3⟩
/-- may he step through c? -/
def wGo (g : zPg) (r t u c : Int) : Prop := (0 ≤ c ∧ c < gN g) ∧ gMay g r (zn4 t) (zn4 u) c.toNat
/-- what read() comes to: answer; where he is then; the FAULT, -1: refused -/
noncomputable def rdF (g : zPg) (fa ce : Nat → Int) : Nat → Nat → Int → Int → Int → Int × (Int × Int × Int) × Int
  | 0, i, r, t, u => ((i : Int), (r, t, u), 0)
  | n + 1, i, r, t, u => if fa i ≠ 0 then ((i : Int), (r, t, u), fa i) else @ite _ (wGo g r t u (ce i)) (Classical.propDecidable _) (rdF g fa ce n (i + 1) (gBy g (ce i).toNat r) (ce i) t) (-20 - (i : Int), (r, t, u), -1)
theorem rdF_f {fa ce : Nat → Int} {n i : Nat} (h : fa i ≠ 0) : rdF g fa ce (n + 1) i r t u = ((i : Int), (r, t, u), fa i) := if_pos h
theorem rdF_y {fa ce : Nat → Int} {n i : Nat} (h : fa i = 0) (h2 : wGo g r t u (ce i)) : rdF g fa ce (n + 1) i r t u = rdF g fa ce n (i + 1) (gBy g (ce i).toNat r) (ce i) t := by
  have e : rdF g fa ce (n + 1) i r t u = if fa i ≠ 0 then ((i : Int), (r, t, u), fa i) else @ite _ (wGo g r t u (ce i)) (Classical.propDecidable _) (rdF g fa ce n (i + 1) (gBy g (ce i).toNat r) (ce i) t) (-20 - (i : Int), (r, t, u), -1) := rfl
  rw [e, if_neg (fun q => q h), if_pos h2]
theorem rdF_n {fa ce : Nat → Int} {n i : Nat} (h : fa i = 0) (h2 : ¬ wGo g r t u (ce i)) : rdF g fa ce (n + 1) i r t u = (-20 - (i : Int), (r, t, u), -1) := by
  have e : rdF g fa ce (n + 1) i r t u = if fa i ≠ 0 then ((i : Int), (r, t, u), fa i) else @ite _ (wGo g r t u (ce i)) (Classical.propDecidable _) (rdF g fa ce n (i + 1) (gBy g (ce i).toNat r) (ce i) t) (-20 - (i : Int), (r, t, u), -1) := rfl
  rw [e, if_neg (fun q => q h), if_neg h2]
def shF (lane l f sz : Int) (i : Nat) : Int := if lane = -1 then 1 else if lane ≠ l then 3 else if 0 ≤ f + i ∧ f + i < sz then 0 else 2
def shC (mem : zMem) (k : Nat) (f : Int) (i : Nat) : Int := mem (46 + 2 * k) (f + i).toNat
theorem shF_z {lane l f sz : Int} {i : Nat} (hf : zI f) (hi : i < 12) (hs : 0 ≤ sz ∧ sz ≤ 40) : (0 ≤ zadd f i ∧ zadd f i < sz) ↔ (0 ≤ f + i ∧ f + i < sz) := by
  unfold zI at hf
  rw [zadd_w]
  unfold w32
  omega
/-- the class -/
theorem l_Od_read (hI : Inv mem) {a l p f n : Int} (ha : 0 ≤ a ∧ a < 4) (hl : 0 ≤ l ∧ l < 3) (hp : 0 ≤ p ∧ p < gP (mem 123)) (hn : 0 ≤ n ∧ n ≤ 12) (hfz : zI f)
    (hQ : ∀ (m' : zMem) (v r t u tn : Int), rdF (mem 123) (shF (mem (45 + 2 * a.toNat) 1) l f (mem (45 + 2 * a.toNat) 2)) (shC mem a.toNat f) n.toNat 0 (gR (mem 123) p.toNat) (gT (mem 123) p.toNat) (gU (mem 123) p.toNat) = (v, (r, t, u), tn) →
      ((0 ≤ tn ∧ wOK (mem 123) (mem 122 1) r t u ∧ Ws m' (9 + p.toNat) r t u ∧ m' 0 12 = tn) ∨ (tn = -1 ∧ Ws m' (9 + p.toNat) (gR (mem 123) p.toNat) (gT (mem 123) p.toNat) (gU (mem 123) p.toNat) ∧ m' 0 12 = mem 0 12)) → (∀ j, j ≠ 12 → m' 0 j = mem 0 j) → (∀ c, c ≠ 0 → c ≠ 9 + p.toNat → c ≠ 69 → m' c = mem c) → Q v m') :
    ∀ (N i : Nat) (r t u : Int) (m : zMem), i + N = n.toNat → rdF (mem 123) (shF (mem (45 + 2 * a.toNat) 1) l f (mem (45 + 2 * a.toNat) 2)) (shC mem a.toNat f) n.toNat 0 (gR (mem 123) p.toNat) (gT (mem 123) p.toNat) (gU (mem 123) p.toNat) = rdF (mem 123) (shF (mem (45 + 2 * a.toNat) 1) l f (mem (45 + 2 * a.toNat) 2)) (shC mem a.toNat f) N i r t u → wOK (mem 123) (mem 122 1) r t u → Ws m (9 + p.toNat) r t u → Ws m 69 (gR (mem 123) p.toNat) (gT (mem 123) p.toNat) (gU (mem 123) p.toNat) → (∀ c, c ≠ 9 + p.toNat → c ≠ 69 → m c = mem c) → zG (d + 4) M_Od_read 62 [(2, Int.ofNat 0), (0, a), (0, l), (9, 0), (0, f), (0, n), (2, Int.ofNat (9 + p.toNat)), (0, (i : Int)), (9, 0)] [] m Q := by
  obtain ⟨⟨w1, w2, w3, w4, w5, w6⟩, hP⟩ := id hI.1
  obtain ⟨s1, s2, s3, s4, s5⟩ := zSh_rt ha
  obtain ⟨t1, t2, t3, t4⟩ := hI.2.2.1.2 a.toNat (by omega)
  have hkd : zkd (9 + p.toNat) = 9 := (zPa_wk (p := 1) (Or.inl rfl) (i := p.toNat) (by omega)).2
  intro N
  induction N with
  | zero =>
    intro i r t u m hi hrd hw hW hW9 hf
    refine v_Od_read_62 hkd ⟨fun c m1 e1 => ?_, fun c => by omega⟩
    refine hQ m1 n r t u 0 ?_ (Or.inl ⟨Int.le_refl _, hw, ?_, by rw [e1, zup_e]⟩) (fun j hj => by rw [e1, zup_j hj, hf 0 (by omega) (by omega)]) (fun c h0 h1 h2 => ?_)
    · rw [hrd]
      show ((i : Int), (r, t, u), (0 : Int)) = _
      rw [show (i : Int) = n by omega]
    · unfold Ws at hW ⊢
      rw [e1, zup_k (by omega), zup_k (by omega), zup_k (by omega)]
      exact hW
    · funext j; rw [e1, zup_k h0, hf c h1 h2]
  | succ N ih =>
    intro i r t u m hi hrd hw hW hW9 hf
    refine v_Od_read_62 hkd ⟨fun c => by omega, fun c => ⟨ha, ?_⟩⟩
    rw [s1]
    have q1 : m (45 + 2 * a.toNat) 1 = mem (45 + 2 * a.toNat) 1 := by rw [hf _ (by omega) (by omega)]
    have q2 : m (45 + 2 * a.toNat) 2 = mem (45 + 2 * a.toNat) 2 := by rw [hf _ (by omega) (by omega)]
    have hz := shF_z (lane := mem (45 + 2 * a.toNat) 1) (l := l) (f := f) (i := i) hfz (by omega) (sz := mem (45 + 2 * a.toNat) 2) (by omega)
    -- a FAULT
    have flt : ∀ x : Int, x ≠ 0 → shF (mem (45 + 2 * a.toNat) 1) l f (mem (45 + 2 * a.toNat) 2) i = x → 0 ≤ x → ((x = 0 → ((0 ≤ a ∧ a < 4) ∧ ((0 ≤ zadd f i ∧ zadd f i < 40) ∧ zC (d + 3) K_Wa_step [(2, Int.ofNat (9 + p.toNat)), (2, Int.ofNat 2), (0, m (zrt (45 + 2 * a.toNat) 0) (zadd f i).toNat)] m (fun r2 m3 => ((r2 ≠ 0 → ∀ x3 : Int, x3 = zadd (i : Int) 1 → zG (d + 4) M_Od_read 62 [(2, Int.ofNat 0), (0, a), (0, l), (9, 0), (0, f), (0, n), (2, Int.ofNat (9 + p.toNat)), (0, x3), (9, 0)] [] m3 Q) ∧ (r2 = 0 → zC (d + 3) K_Wa_take [(2, Int.ofNat (9 + p.toNat)), (2, Int.ofNat 69)] m3 (fun r4 m4 => Q (zsub (-20) (i : Int)) m4))))))) ∧ (x ≠ 0 → ∀ m5 : zMem, m5 = zup m 0 12 x → Q (i : Int) m5)) := by
      intro x hx he hx0
      refine ⟨fun q => absurd q hx, fun _ m5 f5 => ?_⟩
      rw [rdF_f (by rw [he]; exact hx), he] at hrd
      refine hQ m5 i r t u x hrd (Or.inl ⟨hx0, hw, ?_, by rw [f5, zup_e]⟩) (fun j hj => by rw [f5, zup_j hj, hf 0 (by omega) (by omega)]) (fun c h0 h1 h2 => ?_)
      · unfold Ws at hW ⊢
        rw [f5, zup_k (by omega), zup_k (by omega), zup_k (by omega)]
        exact hW
      · funext j; rw [f5, zup_k h0, hf c h1 h2]
    refine v_Sh_faultAt s2 ?_
    rw [q1, q2]
    refine ⟨fun c1 => ⟨fun c2 => ⟨fun c3 => flt 2 (by decide) ?_ (by decide), fun c3 => ⟨fun c4 => ?_, fun c4 => flt 2 (by decide) ?_ (by decide)⟩⟩, fun c2 => flt 3 (by decide) ?_ (by decide)⟩, fun c1 => flt 1 (by decide) ?_ (by decide)⟩
    · unfold shF; rw [if_neg c1, if_neg (fun q => q c2), if_neg (by omega)]
    · have hfa : shF (mem (45 + 2 * a.toNat) 1) l f (mem (45 + 2 * a.toNat) 2) i = 0 := by
        unfold shF; rw [if_neg c1, if_neg (fun q => q c2), if_pos (hz.mp ⟨c3, c4⟩)]
      obtain ⟨z1, z2⟩ := hz.mp ⟨c3, c4⟩
      have hzz : zadd f (i : Int) = f + i := by unfold zI at hfz; rw [za (by omega)]
      refine ⟨fun _ => ⟨ha, by omega, ?_⟩, fun q => absurd rfl q⟩
      rw [s3, hzz, hf (46 + 2 * a.toNat) (by omega) (by omega)]
      have hce : mem (46 + 2 * a.toNat) (f + (i : Int)).toNat = shC mem a.toNat f i := rfl
      rw [hce]
      refine c_Wa_step (d := d) hkd (hP.1.fr (fun c c1 c2 => hf c (by omega) (by omega))) w1 hW (by have := hw.1; omega) (by have := hw.2.1; omega) hw.2.2.1 (by omega) (fun hc hm m3 hW3 hf3 => ⟨fun _ x3 e3 => ?_, fun q => absurd q (by decide)⟩) (fun hm => ⟨fun q => absurd rfl q, fun _ => ?_⟩)
      · rw [za (by omega)] at e3
        rw [e3]
        rw [rdF_y hfa ⟨hc, hm⟩] at hrd
        refine ih (i + 1) _ _ _ m3 (by omega) hrd (hw.step w1 w3 hc) hW3 ?_ (fun c h1 h2 => by rw [hf3 c h1, hf c h1 h2])
        unfold Ws at hW9 ⊢
        rw [hf3 69 (by omega)]
        exact hW9
      · rw [rdF_n hfa hm] at hrd
        refine c_Wa_take (d := d + 2) hkd (by decide) (by omega) (fun m4 e0 e1 e2 hf4 => ?_)
        rw [zs (by omega)]
        refine hQ m4 _ r t u (-1) hrd (Or.inr ⟨rfl, ⟨?_, ?_, ?_⟩, by rw [hf4 0 (by omega), hf 0 (by omega) (by omega)]⟩) (fun j hj => by rw [hf4 0 (by omega), hf 0 (by omega) (by omega)]) (fun c h0 h1 h2 => by rw [hf4 c h1, hf c h1 h2])
        · rw [e0]; exact hW9.1
        · rw [e1]; exact hW9.2.1
        · rw [e2]; exact hW9.2.2
    · unfold shF; rw [if_neg c1, if_neg (fun q => q c2), if_neg (by omega)]
    · unfold shF; rw [if_neg c1, if_pos c2]
    · unfold shF; rw [if_pos c1]
end
