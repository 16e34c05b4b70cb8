section
/-! The whole invariant: the palace that stands, images, sheets, tape; what leaves it as it is. -/
variable {d : Nat} {mem m' m2 : zMem} {Q : Int → zMem → Prop} {R S : zMem → Prop} {g g' : zPg} {rm : Int}
theorem za {x y : Int} (h : -2147483648 ≤ x + y ∧ x + y < 2147483648) : zadd x y = x + y := zadd_n h
theorem zs {x y : Int} (h : -2147483648 ≤ x - y ∧ x - y < 2147483648) : zsub x y = x - y := zsub_n h
theorem zm {x y : Int} (h : -2147483648 ≤ x * y ∧ x * y < 2147483648) : zmul x y = x * y := zmul_n h
theorem zd {x y : Int} (hx : 0 ≤ x ∧ x < 2147483648) (hy : 0 < y ∧ y < 2147483648) : zdiv x y = x / y := zdiv_n (by unfold zI; omega) (by unfold zI; omega) hx.1 hy.1
theorem zr {x y : Int} (hx : 0 ≤ x ∧ x < 2147483648) (hy : 0 < y ∧ y < 2147483648) : zrem x y = x % y := zrem_n (by unfold zI; omega) (by unfold zI; omega) hx.1 hy.1
theorem Hs.fr {x : Nat} (hm : ∀ k, x ≤ k → k ≤ x + 5 → m' k = mem k) (hH : Hs mem x g rm) : Hs m' x g rm := by
  unfold Hs at hH ⊢
  rw [hm x (by omega) (by omega), hm (x + 1) (by omega) (by omega), hm (x + 2) (by omega) (by omega), hm (x + 3) (by omega) (by omega), hm (x + 4) (by omega) (by omega), hm (x + 5) (by omega) (by omega)]
  exact hH
theorem gWf.cg (h : ∀ i, i < 88 → g' i = g i) (hw : gWf g rm) : gWf g' rm := by
  obtain ⟨w1, w2, w3, w4, w5, w6, w7⟩ := hw
  have e1 : gEq g g' := ⟨fun i hi => h i (by omega), h 73 (by omega)⟩
  have eP : gP g' = gP g := h 72 (by omega)
  have eW : gW g' = gW g := h 86 (by omega)
  have hN := w1.1
  refine ⟨e1.Do w1, w2, fun k hk => ?_, by rw [eP]; exact w4, fun i hi => ?_, by rw [eW]; exact w6, fun i hi => ?_⟩
  · rw [e1.N] at hk
    obtain ⟨a1, a2, -, -⟩ := e1.at (k := k) (by omega)
    rw [a1, a2]
    exact w3 k hk
  · rw [eP] at hi
    have a1 : gR g' i = gR g i := h _ (by omega)
    have a2 : gT g' i = gT g i := h _ (by omega)
    have a3 : gU g' i = gU g i := h _ (by omega)
    obtain ⟨b1, b2, b3, b4⟩ := w5 i hi
    unfold gWk
    rw [a1, a2, a3, e1.N]
    refine ⟨b1, ?_, b3, b4⟩
    rcases b2 with b2 | ⟨b2, b2', b2''⟩
    · exact Or.inl b2
    · obtain ⟨c1, c2, -, -⟩ := e1.at (k := (gT g i).toNat) (by omega)
      rw [c1, c2]
      exact Or.inr ⟨b2, b2', b2''⟩
  · rw [eW] at hi
    rw [h (74 + i) (by omega), e1.N]
    exact w7 i hi
theorem Ps.cg {p : Nat} (hw : gWf g rm) (h : ∀ i, i < 88 → g' i = g i) (hm : ∀ k, p ≤ k → k ≤ p + 13 → m' k = mem k) (hP : Ps mem p g rm) : Ps m' p g' rm := by
  obtain ⟨w1, w2, w3, w4, w5, w6, w7⟩ := hw
  obtain ⟨p1, p2, p3, p4, p5⟩ := hP
  have e1 : gEq g g' := ⟨fun i hi => h i (by omega), h 73 (by omega)⟩
  have eP : gP g' = gP g := h 72 (by omega)
  have eW : gW g' = gW g := h 86 (by omega)
  refine ⟨e1.Hs w1.1.2 (fun k k1 k2 => hm k (by omega) (by omega)) p1, ?_, fun i hi => ?_, ?_, fun i hi => ?_⟩
  · rw [hm p (by omega) (by omega), eP]; exact p2
  · rw [eP] at hi
    have a1 : gR g' i = gR g i := h _ (by omega)
    have a2 : gT g' i = gT g i := h _ (by omega)
    have a3 : gU g' i = gU g i := h _ (by omega)
    have := p3 i hi
    unfold Ws at this ⊢
    rw [a1, a2, a3, hm (p + 8 + i) (by omega) (by omega)]
    exact this
  · rw [hm p (by omega) (by omega), eW]; exact p4
  · rw [eW] at hi
    rw [hm (p + 13) (by omega) (by omega), h (74 + i) (by omega)]
    exact p5 i hi
theorem Ipal.fr (hI : Ipal mem) (hc : ∀ k, 1 ≤ k → k ≤ 14 → m' k = mem k) (hg : ∀ i, i < 88 → m' 123 i = mem 123 i) (hr : m' 122 1 = mem 122 1) : Ipal m' := by
  unfold Ipal at hI ⊢
  rw [hr]
  exact ⟨hI.1.cg hg, hI.2.cg hI.1 hg (fun k k1 k2 => hc k k1 (by omega))⟩
def gIm (mem : zMem) (k : Nat) : zPg := fun i => mem 123 (88 * (k + 1) + i)
def Iimg (mem : zMem) : Prop := (0 ≤ mem 0 11 ∧ mem 0 11 < 4) ∧ ∀ k : Nat, k < 2 → (mem 142 k = 0 ∨ mem 142 k = 1) ∧ (zB (mem 0 11) k ↔ mem 142 k = 1) ∧ (mem 142 k = 1 → gWf (gIm mem k) (mem 122 1) ∧ Ps mem (16 + 14 * k) (gIm mem k) (mem 122 1))
def Ish (mem : zMem) : Prop := mem 0 12 = mem 122 43 ∧ ∀ k : Nat, k < 4 → ((mem (45 + 2 * k) 1 = -1 ∧ mem 143 k = -4) ∨ (0 ≤ mem (45 + 2 * k) 1 ∧ mem (45 + 2 * k) 1 < 3 ∧ mem 143 k = mem (45 + 2 * k) 1)) ∧ mem (45 + 2 * k) 2 = mem 144 k ∧ (0 ≤ mem 144 k ∧ mem 144 k ≤ 40) ∧ ∀ i, i < 40 → mem (46 + 2 * k) i = mem 145 (40 * k + i)
def Itp (mem : zMem) : Prop := mem 53 2 = mem 122 10 ∧ (0 ≤ mem 53 2 ∧ mem 53 2 ≤ 320) ∧ mem 53 4 = mem 122 11 ∧ (∀ i : Nat, (i : Int) < mem 53 2 → (-128 ≤ mem 54 i ∧ mem 54 i < 128) ∧ mem 125 i = mem 54 i % 256) ∧ (∀ i, i < 9 → mem 126 i = zm0 126 i) ∧ ∀ i, i < 33 → mem 127 i = zm0 127 i
def Inv (mem : zMem) : Prop := Ipal mem ∧ Iimg mem ∧ Ish mem ∧ Itp mem
theorem Iimg.fr (hI : Iimg mem) (h0 : m' 0 11 = mem 0 11) (hr : m' 122 1 = mem 122 1) (hg : ∀ i, 88 ≤ i → m' 123 i = mem 123 i) (hc : ∀ k, 16 ≤ k → k ≤ 43 → m' k = mem k) (hs : m' 142 = mem 142) : Iimg m' := by
  unfold Iimg at hI ⊢
  rw [h0, hr, hs]
  refine ⟨hI.1, fun k hk => ⟨(hI.2 k hk).1, (hI.2 k hk).2.1, fun q => ?_⟩⟩
  obtain ⟨a, b⟩ := (hI.2 k hk).2.2 q
  have e : gIm m' k = gIm mem k := by
    funext i
    exact hg _ (by omega)
  rw [e]
  exact ⟨a, b.cg a (fun _ _ => rfl) (fun c c1 c2 => hc c (by omega) (by omega))⟩
theorem Ish.fr (hI : Ish mem) (h0 : m' 0 12 = mem 0 12) (hr : m' 122 43 = mem 122 43) (hc : ∀ k, 45 ≤ k → k ≤ 52 → m' k = mem k) (hs : ∀ k, 143 ≤ k → k ≤ 145 → m' k = mem k) : Ish m' := by
  unfold Ish at hI ⊢
  rw [h0, hr, hs 143 (by omega) (by omega), hs 144 (by omega) (by omega), hs 145 (by omega) (by omega)]
  refine ⟨hI.1, fun k hk => ?_⟩
  rw [hc (45 + 2 * k) (by omega) (by omega), hc (46 + 2 * k) (by omega) (by omega)]
  exact hI.2 k hk
theorem Itp.fr (hI : Itp mem) (h1 : m' 122 10 = mem 122 10) (h2 : m' 122 11 = mem 122 11) (h3 : m' 53 2 = mem 53 2) (h4 : m' 53 4 = mem 53 4) (hc : m' 54 = mem 54) (ht : ∀ k, 125 ≤ k → k ≤ 127 → m' k = mem k) : Itp m' := by
  unfold Itp at hI ⊢
  rw [h1, h2, h3, h4, hc, ht 125 (by omega) (by omega), ht 126 (by omega) (by omega), ht 127 (by omega) (by omega)]
  exact hI
theorem Inv.fr (hI : Inv mem) (hp : Ipal m') (h0 : m' 0 = mem 0) (hr : ∀ j, j = 1 ∨ j = 10 ∨ j = 11 ∨ j = 43 → m' 122 j = mem 122 j) (hg : ∀ i, 88 ≤ i → m' 123 i = mem 123 i) (hc : ∀ k, 15 ≤ k → k ≤ 54 → m' k = mem k) (ht : ∀ k, 125 ≤ k → k ≤ 127 → m' k = mem k) (hs : ∀ k, 142 ≤ k → k ≤ 145 → m' k = mem k) : Inv m' :=
  ⟨hp, hI.2.1.fr (by rw [h0]) (hr 1 (by omega)) hg (fun k k1 k2 => hc k (by omega) (by omega)) (hs 142 (by omega) (by omega)), hI.2.2.1.fr (by rw [h0]) (hr 43 (by omega)) (fun k k1 k2 => hc k (by omega) (by omega)) (fun k k1 k2 => hs k (by omega) (by omega)), hI.2.2.2.fr (hr 10 (by omega)) (hr 11 (by omega)) (by rw [hc 53 (by omega) (by omega)]) (by rw [hc 53 (by omega) (by omega)]) (hc 54 (by omega) (by omega)) ht⟩
/-- all that lasts is as it was -/
def zKp (mem m' : zMem) : Prop := (∀ k, k < 69 → m' k = mem k) ∧ (∀ k, 123 ≤ k → k ≤ 127 → m' k = mem k) ∧ (∀ k, 142 ≤ k → k ≤ 145 → m' k = mem k) ∧ ∀ j, j = 1 ∨ j = 10 ∨ j = 11 ∨ j = 43 → m' 122 j = mem 122 j
theorem zKp.refl : zKp mem mem := ⟨fun _ _ => rfl, fun _ _ _ => rfl, fun _ _ _ => rfl, fun _ _ => rfl⟩
theorem zKp.trans (h : zKp mem m') (h' : zKp m' m2) : zKp mem m2 := ⟨fun k hk => by rw [h'.1 k hk, h.1 k hk], fun k k1 k2 => by rw [h'.2.1 k k1 k2, h.2.1 k k1 k2], fun k k1 k2 => by rw [h'.2.2.1 k k1 k2, h.2.2.1 k k1 k2], fun j hj => by rw [h'.2.2.2 j hj, h.2.2.2 j hj]⟩
theorem zKp.cl (h : ∀ k, k < 69 ∨ 121 < k → m' k = mem k) : zKp mem m' := ⟨fun k hk => h k (by omega), fun k k1 k2 => h k (by omega), fun k k1 k2 => h k (by omega), fun j hj => by rw [h 122 (by omega)]⟩
theorem zKp.pg (h : zKp mem m') : m' 123 = mem 123 := h.2.1 123 (by omega) (by omega)
theorem zKp.ro (h : zKp mem m') : m' 122 1 = mem 122 1 := h.2.2.2 1 (by omega)
theorem Ipal.sc (hI : Ipal mem) (h : zKp mem m') : Ipal m' := hI.fr (fun k k1 k2 => h.1 k (by omega)) (fun i hi => by rw [h.pg]) h.ro
theorem Inv.sc (hI : Inv mem) (h : zKp mem m') : Inv m' := hI.fr (hI.1.sc h) (h.1 0 (by omega)) h.2.2.2 (fun i hi => by rw [h.pg]) (fun k k1 k2 => h.1 k (by omega)) (fun k k1 k2 => h.2.1 k (by omega) (by omega)) h.2.2.1
/-- two answers that are one value -/
theorem zTw {D : Nat} {K1 K2 : zKey} {a1 a2 : List zV} (v : Int) (hI : Inv mem) (h1 : ∀ Q, (∀ m', zKp mem m' → Q v m') → zC D K1 a1 mem Q) (h2 : ∀ m1, zKp mem m1 → Inv m1 → ∀ Q, (∀ m', zKp m1 m' → Q v m') → zC D K2 a2 m1 Q) (hR : ∀ m', Inv m' → R m') : zC D K1 a1 mem (fun r1 m1 => zC D K2 a2 m1 (fun r2 m2 => (r1 = r2 → R m2) ∧ (r1 ≠ r2 → S m2))) :=
  h1 _ fun m1 s1 => h2 m1 s1 (hI.sc s1) _ fun m2 s2 => ⟨fun _ => hR m2 (hI.sc (s1.trans s2)), fun q => absurd rfl q⟩
/-! torn, fault, end -/
theorem T_torn (hI : Inv mem) (hR : ∀ m', Inv m' → R m') : zC (d + 1) K_Od_torn [(2, Int.ofNat 0)] mem (fun r1 m1 => zC (d + 1) K_Mo_torn [(2, Int.ofNat 122)] m1 (fun r2 m2 => (r1 = r2 → R m2) ∧ (r1 ≠ r2 → S m2))) :=
  v_Od_torn (v_Mo_torn ⟨fun _ => hR mem hI, fun q => absurd hI.2.2.1.1 q⟩)
theorem T_fault (hI : Inv mem) (hR : ∀ m', Inv m' → R m') : zC (d + 1) K_Od_fault [(2, Int.ofNat 0)] mem (fun r1 m1 => zC (d + 1) K_Mo_fault [(2, Int.ofNat 122)] m1 (fun r2 m2 => (r1 = r2 → R m2) ∧ (r1 ≠ r2 → S m2))) :=
  v_Od_fault (v_Mo_fault ⟨fun _ => hR mem hI, fun q => absurd hI.2.2.2.2.2.1 q⟩)
theorem T_end {a : Int} (hI : Inv mem) (hR : ∀ m', Inv m' → R m') : zC (d + 2) K_Od_end [(2, Int.ofNat 0), (0, a)] mem (fun r1 m1 => zC (d + 2) K_Mo_end [(2, Int.ofNat 122), (0, a)] m1 (fun r2 m2 => (r1 = r2 → R m2) ∧ (r1 ≠ r2 → S m2))) := by
  obtain ⟨t1, t2, t3, t4, t5⟩ := hI.2.2.2
  have bad : ¬ (0 ≤ a ∧ a ≤ mem 122 10) → zC (d + 2) K_Mo_end [(2, Int.ofNat 122), (0, a)] mem (fun r2 m2 => (-1 = r2 → R m2) ∧ (-1 ≠ r2 → S m2)) := fun h => v_Mo_end (c_Mo_in (d := d) (fun q => absurd q h) (fun _ => ⟨fun q => absurd rfl q, fun _ => ⟨fun _ => hR mem hI, fun q => absurd rfl q⟩⟩))
  refine v_Od_end ⟨fun c => bad (by omega), fun c => ⟨fun c2 x1 e1 m1 f1 => ?_, fun c2 => bad (by omega)⟩⟩
  have q2 : m1 122 = mem 122 := by funext j; rw [f1, zup_k (by omega)]
  refine v_Mo_end (c_Mo_in (d := d) (fun _ => ⟨fun _ x2 e2 m2 f2 => ?_, fun q => absurd q (by decide)⟩) (fun q => absurd (by rw [q2]; omega) q))
  have hx : x1 = x2 := by rw [e1, e2, q2, t1]
  have hf : ∀ k, k ≠ 53 → k ≠ 122 → m2 k = mem k := fun k k1 k2 => by funext j; rw [f2, zup_k k2, f1, zup_k k1]
  have h22 : ∀ j, j ≠ 10 → m2 122 j = mem 122 j := fun j hj => by rw [f2, zup_j hj, q2]
  have h53 : ∀ j, j ≠ 2 → m2 53 j = mem 53 j := fun j hj => by rw [f2, zup_k (by omega), f1, zup_j hj]
  have n1 : m2 53 2 = a := by rw [f2, zup_k (by omega), f1, zup_e]
  have n2 : m2 122 10 = a := by rw [f2, zup_e]
  refine ⟨fun _ => hR m2 ⟨hI.1.fr (fun k k1 k2 => hf k (by omega) (by omega)) (fun i _ => by rw [hf 123 (by omega) (by omega)]) (h22 1 (by omega)), hI.2.1.fr (by rw [hf 0 (by omega) (by omega)]) (h22 1 (by omega)) (fun i _ => by rw [hf 123 (by omega) (by omega)]) (fun k k1 k2 => hf k (by omega) (by omega)) (hf 142 (by omega) (by omega)), hI.2.2.1.fr (by rw [hf 0 (by omega) (by omega)]) (h22 43 (by omega)) (fun k k1 k2 => hf k (by omega) (by omega)) (fun k k1 k2 => hf k (by omega) (by omega)), ?_⟩, fun q => absurd hx q⟩
  unfold Itp
  rw [n1, n2, h53 4 (by omega), h22 11 (by omega), hf 54 (by omega) (by omega), hf 125 (by omega) (by omega), hf 126 (by omega) (by omega), hf 127 (by omega) (by omega)]
  exact ⟨rfl, by omega, t3, fun i hi => t4 i (by omega), t5⟩
end
