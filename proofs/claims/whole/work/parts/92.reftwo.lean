section
/-! The reference: two who walk. -/
variable {d w : Nat} {mem m m' m2 : zMem} {Q : Int → zMem → Prop} {q q' : Nat → Nat} {D D' : Nat → Int} {n k x : Nat} {s0 T : Nat → Prop} {stp : Nat → Nat → Prop} {P P' : Nat → Prop} {y0 z : Nat} {g : zPg} {pl pl' : Int}
def tJ (s0 : Nat → Prop) (stp : Nat → Nat → Prop) (T : Nat → Prop) (m : zMem) (k y0 : Nat) (P : Nat → Prop) : Prop := ∃ n q D, tQ m n q D ∧ qS s0 stp T n q D k P ∧ k < n ∧ q k = y0 ∧ ∀ i, i < n → D (q i) ≤ i
theorem tJ.cg (h : tJ s0 stp T m k y0 P) (hP : ∀ y, P' y → P y) : tJ s0 stp T m k y0 P' := by
  obtain ⟨n, q, D, h1, h2, h3⟩ := h
  exact ⟨n, q, D, h1, h2.cg hP, h3⟩
theorem tJ.at_ (h : tJ s0 stp T m k y0 P) : y0 < 8664 ∧ k < 8664 ∧ (∃ j, wk s0 stp j y0) ∧ 0 ≤ m 137 y0 ∧ m 137 y0 ≤ k := by
  obtain ⟨n, q, D, ⟨t1, t2, t3, t4, t5⟩, h2, h3, h4, h5⟩ := h
  obtain ⟨b1, b2, b3⟩ := t3 k h3
  obtain ⟨j, j1, j2⟩ := h2.2.1 k h3
  have := h5 k h3
  rw [h4] at b2 j1 j2 this
  refine ⟨b2, by omega, ⟨j, j2⟩, ?_⟩
  rw [(t5 y0 b2).1]
  omega
theorem tJ.find (h : tJ s0 stp T mem k y0 P) (hs : stp y0 z) (hz : z < 8664) (hQ : ∀ m' : zMem, tJ s0 stp T m' k y0 (fun y => P y ∨ y = z) → tFr mem m' → m' 137 y0 = mem 137 y0 → Q 0 m') : zC (d + 1) K_Mo_findsTwo [(2, Int.ofNat 122), (0, (z : Int)), (0, mem 137 y0 + 1)] mem Q := by
  have ha := h.at_
  obtain ⟨n, q, D, ht, h2, h3, h4, h5⟩ := h
  obtain ⟨t1, t2, t3, t4, t5⟩ := id ht
  have e0 : mem 137 y0 = D y0 := (t5 y0 ha.1).1
  refine c_Mo_findsTwo ht hz (by omega) (fun c => hQ mem ⟨n, q, D, ht, h2.old h3 ((t5 z hz).2 c), h3, h4, h5⟩ tFr.refl rfl) (fun c m' q' D' u1 u2 u3 u4 u5 u6 => hQ m' ⟨n + 1, q', D', u1, ?_, by omega, by rw [u2 k h3, h4], fun i hi => ?_⟩ u6 ?_)
  · have hn : ∀ j, j < n → q j ≠ z := fun j hj e => (t3 j hj).2.2 (by rw [e]; exact c)
    exact h2.new h3 (by rw [h4]; exact hs) hn u2 u3 (by rw [u4, e0, h4]) (fun i hi => u5 _ (hn i hi))
  · by_cases e : i = n
    · rw [e, u3, u4]; omega
    · rw [u2 i (by omega), u5 _ (fun e => (t3 i (by omega)).2.2 (by rw [e]; exact c))]
      exact h5 i (by omega)
  · rw [(u1.2.2.2.2 y0 ha.1).1, e0]
    refine u5 y0 (fun e => ?_)
    have := (t3 k h3).2.2
    rw [h4, e] at this
    exact this c
def tI (s0 : Nat → Prop) (m : zMem) (S : Nat → Prop) : Prop := ∃ n q D, tQ m n q D ∧ (∀ i, i < n → D (q i) = 0 ∧ s0 (q i)) ∧ ∀ y, S y → ∃ i, i < n ∧ q i = y
theorem tI.find {S : Nat → Prop} (h : tI s0 mem S) (hs : s0 z) (hz : z < 8664) (hQ : ∀ m' : zMem, tI s0 m' (fun y => S y ∨ y = z) → tFr mem m' → Q 0 m') : zC (d + 1) K_Mo_findsTwo [(2, Int.ofNat 122), (0, (z : Int)), (0, 0)] mem Q := by
  obtain ⟨n, q, D, ht, h2, h3⟩ := h
  obtain ⟨t1, t2, t3, t4, t5⟩ := id ht
  refine c_Mo_findsTwo ht hz (by omega) (fun c => hQ mem ⟨n, q, D, ht, h2, ?_⟩ tFr.refl) (fun c m' q' D' u1 u2 u3 u4 u5 u6 => hQ m' ⟨n + 1, q', D', u1, fun i hi => ?_, ?_⟩ u6)
  · rintro y (hy | hy)
    · exact h3 y hy
    · rw [hy]; exact (t5 z hz).2 c
  · by_cases e : i = n
    · rw [e, u3, u4]; exact ⟨rfl, hs⟩
    · have hn : q i ≠ z := fun e => (t3 i (by omega)).2.2 (by rw [e]; exact c)
      rw [u2 i (by omega), u5 _ hn]
      exact h2 i (by omega)
  · rintro y (hy | hy)
    · obtain ⟨i, i1, i2⟩ := h3 y hy
      exact ⟨i, by omega, by rw [u2 i i1, i2]⟩
    · exact ⟨n, by omega, by rw [u3, hy]⟩
theorem tI.begin_ (h : tI s0 m s0) : ∃ n q D, tQ m n q D ∧ qS s0 stp T n q D 0 (fun _ => False) ∧ ∀ i, i < n → D (q i) ≤ i := by
  obtain ⟨n, q, D, ht, h2, h3⟩ := h
  refine ⟨n, q, D, ht, ⟨Nat.zero_le _, fun i hi => ⟨0, (h2 i hi).1, (h2 i hi).2⟩, fun i j hij hj => ?_, fun h0 j hj => ?_, fun y hy => ?_, fun i hi => by omega, fun i hi => by omega, fun y hy => hy.elim⟩, fun i hi => ?_⟩
  · rw [(h2 i (by omega)).1, (h2 j hj).1]; omega
  · rw [(h2 j hj).1, (h2 0 h0).1]; omega
  · obtain ⟨i, i1, i2⟩ := h3 y hy
    exact ⟨i, i1, i2, by rw [← i2, (h2 i i1).1]; omega⟩
  · rw [(h2 i hi).1]; omega
/-- what one may do: a step; who is lost stays -/
def pdn (g : zPg) (pl pl' : Int) : Prop := (∃ k : Nat, pMay g pl k ∧ pl' = pStep g pl k) ∨ ((∀ k : Nat, ¬ pMay g pl k) ∧ pl' = pl)
def c15 (g : zPg) (pl : Int) : Prop := pOK g pl ∧ pl % 15 = 0
theorem pdn.ok (hD : gDo g) (hL : gL g ≠ 1) (h : c15 g pl) (hd : pdn g pl pl') : c15 g pl' := by
  rcases hd with ⟨k, h1, h2⟩ | ⟨h1, h2⟩
  · have hk : (k : Int) < gN g := h1.1.1
    have hN := hD.1
    rw [h2]
    unfold pStep
    rw [if_neg hL]
    obtain ⟨a1, a2, a3, a4⟩ := pMk_at (room := 0) (last := (k : Int)) (bef := -4) (side := if gA g k = pR g pl then 1 else 0) (by omega) (Or.inl rfl) (by split <;> omega) _ rfl
    generalize pMk 0 (↑k) (-4) (if gA g k = pR g pl then 1 else 0) = X at a1 a2 a3 a4 ⊢
    rw [show zn4 (-4) = -1 by decide] at a4
    refine ⟨⟨by omega, by omega, fun h => by omega, fun h => by omega⟩, by omega⟩
  · rw [h2]; exact h
def st (g : zPg) : Int := if gN g = 0 then 1 else gN g
noncomputable def dB (g : zPg) (pl : Int) (k : Nat) : Int := if gN g = 0 then pl else @ite Int (pMay g pl k) (Classical.propDecidable _) (pStep g pl k) (@ite Int (k = 0 ∧ ∀ j : Nat, ¬ pMay g pl j) (Classical.propDecidable _) pl (-4))
theorem dB_pdn (hp : 0 ≤ pl) {k : Nat} (h : dB g pl k ≠ -4) : pdn g pl (dB g pl k) := by
  unfold dB at h ⊢
  by_cases h0 : gN g = 0
  · rw [if_pos h0]
    exact Or.inr ⟨fun k hk => by have := hk.1.1; omega, rfl⟩
  · rw [if_neg h0] at h ⊢
    by_cases h1 : pMay g pl k
    · rw [if_pos h1]
      exact Or.inl ⟨k, h1, rfl⟩
    · rw [if_neg h1] at h ⊢
      by_cases h2 : k = 0 ∧ ∀ j : Nat, ¬ pMay g pl j
      · rw [if_pos h2]
        exact Or.inr ⟨h2.2, rfl⟩
      · rw [if_neg h2] at h
        exact absurd rfl h
theorem pdn_dB (hp : 0 ≤ pl) (hD : gDo g) (hk' : c15 g pl' ) (h : pdn g pl pl') : ∃ k : Nat, (k : Int) < st g ∧ dB g pl k = pl' ∧ dB g pl k ≠ -4 := by
  have h4 : pl' ≠ -4 := by have := hk'.1.1; omega
  have hN := hD.1
  rcases h with ⟨k, h1, h2⟩ | ⟨h1, h2⟩
  · have hk : (k : Int) < gN g := h1.1.1
    have e : dB g pl k = pl' := by
      unfold dB
      rw [if_neg (by omega), if_pos h1, h2]
    exact ⟨k, by unfold st; split <;> omega, e, by rw [e]; exact h4⟩
  · have e : dB g pl 0 = pl' := by
      unfold dB
      split
      · exact h2.symm
      · rw [if_neg (h1 0), if_pos ⟨rfl, h1⟩, h2]
    exact ⟨0, by unfold st; split <;> omega, e, by rw [e]; exact h4⟩
theorem c_Mo_stays {a : Int} (hQ : Q (st (mem 123)) mem) : zC (d + 2) K_Mo_stays [(2, Int.ofNat 122), (0, a)] mem Q := by
  unfold st at hQ
  refine v_Mo_stays (c_Mo_doorMany ⟨fun c => c_Mo_doorMany ?_, fun c => ?_⟩)
  · rw [if_neg (show ¬ gN (mem 123) = 0 from c)] at hQ; exact hQ
  · rw [if_pos (show gN (mem 123) = 0 from c)] at hQ; exact hQ
theorem c_Mo_doneBy (hp : pOK (mem 123) pl) (hD : gDo (mem 123)) (hk : (k : Int) < st (mem 123)) (hQ : Q (dB (mem 123) pl k) mem) : zC (d + 6) K_Mo_doneBy [(2, Int.ofNat 122), (0, pl), (0, (k : Int))] mem Q := by
  unfold st at hk
  unfold dB at hQ
  refine v_Mo_doneBy (c_Mo_doorMany ⟨fun c => ?_, fun c => ?_⟩)
  · rw [if_neg (show ¬ gN (mem 123) = 0 from c)] at hQ hk
    refine v_Mo_doing (c_Mo_stepped (d := d + 2) hp hD ⟨by omega, hk⟩ (fun c1 => ?_) (fun c1 => ?_))
    · rw [Int.toNat_natCast] at c1 ⊢
      rw [if_pos c1] at hQ
      have h3 : pStep (mem 123) pl k ≠ -4 := by
        unfold pStep
        have hN := hD.1
        have hb : (if gL (mem 123) = 1 then pL pl else -4) = -4 ∨ (0 ≤ (if gL (mem 123) = 1 then pL pl else -4) ∧ (if gL (mem 123) = 1 then pL pl else -4) < 14) := by
          obtain ⟨p1, p2, p3, p4⟩ := hp
          unfold pL
          split
          · split
            · exact Or.inl rfl
            · right; omega
          · exact Or.inl rfl
        obtain ⟨a1, -⟩ := pMk_at (room := 0) (last := (k : Int)) (side := if gA (mem 123) k = pR (mem 123) pl then 1 else 0) (by omega) hb (by split <;> omega) _ rfl
        omega
      exact ⟨fun _ => hQ, fun q => absurd q h3⟩
    · rw [Int.toNat_natCast] at c1
      rw [if_neg c1] at hQ
      refine ⟨fun q => absurd rfl q, fun _ => ⟨fun c2 => ?_, fun c2 => ?_⟩⟩
      · rw [if_neg (fun z => c2 (by omega))] at hQ
        exact hQ
      · refine c_Mo_isLost hp hD (fun c3 => ⟨fun q => absurd q (by decide), fun _ => ?_⟩) (fun c3 => ⟨fun _ => ?_, fun q => absurd rfl q⟩)
        · rw [if_pos ⟨by omega, c3⟩] at hQ
          exact hQ
        · rw [if_neg (fun z => c3 z.2)] at hQ
          exact hQ
  · rw [if_pos (show gN (mem 123) = 0 from c)] at hQ
    exact hQ
/-- what two loops have laid -/
def lP (s : Int) (F : Nat → Nat → Nat → Prop) (i j y : Nat) : Prop := ∃ a b : Nat, (a < i ∨ (a = i ∧ b < j)) ∧ (b : Int) < s ∧ F a b y
theorem lP_j {s : Int} {F : Nat → Nat → Nat → Prop} {i j y : Nat} (h : lP s F i (j + 1) y) : lP s F i j y ∨ F i j y := by
  obtain ⟨a, b, h1, h2, h3⟩ := h
  by_cases e : a = i ∧ b = j
  · rw [e.1, e.2] at h3; exact Or.inr h3
  · exact Or.inl ⟨a, b, by omega, h2, h3⟩
theorem lP_i {s : Int} {F : Nat → Nat → Nat → Prop} {i j y : Nat} (hj : s ≤ j ∨ ∀ b, ¬ F i b y) (h : lP s F (i + 1) 0 y) : lP s F i j y := by
  obtain ⟨a, b, h1, h2, h3⟩ := h
  by_cases e : a = i
  · rcases hj with hj | hj
    · exact ⟨a, b, by omega, h2, h3⟩
    · rw [e] at h3; exact absurd h3 (hj b)
  · exact ⟨a, b, by omega, h2, h3⟩
def cd (ta tb : Int) (l : Nat) : Nat := 6 * (38 * (ta / 15).toNat + (tb / 15).toNat) + l
def pa (y : Nat) : Int := 15 * ((y / 6 / 38 : Nat) : Int)
def pb (y : Nat) : Int := 15 * ((y / 6 % 38 : Nat) : Int)
theorem cd_at {ta tb : Int} {l : Nat} (ha : c15 g ta) (hb : c15 g tb) (hl : l < 6) : cd ta tb l < 8664 ∧ pa (cd ta tb l) = ta ∧ pb (cd ta tb l) = tb ∧ cd ta tb l % 6 = l := by
  obtain ⟨⟨a1, a2, -⟩, a3⟩ := ha
  obtain ⟨⟨b1, b2, -⟩, b3⟩ := hb
  unfold pa pb cd
  omega
theorem cd_e {ta tb : Int} {l : Nat} (ha : c15 g ta) (hb : c15 g tb) (hl : l < 6) : zadd (zmul 6 (zadd (zmul 38 (zdiv ta 15)) (zdiv tb 15))) (l : Int) = ((cd ta tb l : Nat) : Int) := by
  obtain ⟨⟨a1, a2, -⟩, a3⟩ := ha
  obtain ⟨⟨b1, b2, -⟩, b3⟩ := hb
  unfold cd
  rw [zd (x := ta) (by omega) (by omega), zd (x := tb) (by omega) (by omega), zm (x := 38) (by omega), za (x := 38 * (ta / 15)) (by omega), zm (by omega), za (by omega)]
  omega
def stT (g : zPg) (k : Nat) (y y' : Nat) : Prop := y % 6 < k ∧ ∃ ta tb : Int, pdn g (pa y) ta ∧ pdn g (pb y) tb ∧ y' = cd ta tb (if pR g ta = pR g tb then y % 6 + 1 else 0)
def iT (g : zPg) (k : Nat) (y : Nat) : Prop := c15 g (pa y) ∧ c15 g (pb y) ∧ y % 6 ≤ k
theorem stT.ok (hD : gDo g) (hL : gL g ≠ 1) {k y y' : Nat} (hk : k ≤ 5) (h : iT g k y) (hs : stT g k y y') : iT g k y' ∧ y' < 8664 := by
  obtain ⟨h1, ta, tb, h2, h3, h4⟩ := hs
  have ha := h2.ok hD hL h.1
  have hb := h3.ok hD hL h.2.1
  obtain ⟨b1, b2, b3, b4⟩ := cd_at (l := if pR g ta = pR g tb then y % 6 + 1 else 0) ha hb (by split <;> omega)
  rw [h4]
  refine ⟨⟨by rw [b2]; exact ha, by rw [b3]; exact hb, ?_⟩, b1⟩
  rw [b4]
  split <;> omega
theorem wk_I {I : Nat → Prop} (h0 : ∀ y, s0 y → I y) (h1 : ∀ y y', I y → stp y y' → I y') : ∀ j y, wk s0 stp j y → I y := by
  intro j
  induction j with
  | zero => exact h0
  | succ j ih =>
    rintro y ⟨z, z1, z2⟩
    exact h1 z y (ih z z1) z2
theorem c_Mo_layTalk (hD : gDo (mem 123)) (hL : gL (mem 123) ≠ 1) {kk : Nat} (hk : kk ≤ 5) (hi : iT (mem 123) kk y0) (hlt : y0 % 6 < kk) (h : tJ s0 (stT (mem 123) kk) T mem k y0 (fun _ => False)) (hQ : ∀ m' : zMem, tJ s0 (stT (mem 123) kk) T m' k y0 (fun y => stT (mem 123) kk y0 y) → tFr mem m' → Q 0 m') : zC (d + 8) K_Mo_layTalk [(2, Int.ofNat 122), (0, (y0 : Int)), (0, (kk : Int))] mem Q := by
  obtain ⟨ca, cb, -⟩ := id hi
  have ha0 := ca.1.1
  have hb0 := cb.1.1
  have h0 := h.at_
  have hN := hD.1
  have hst : 1 ≤ st (mem 123) ∧ st (mem 123) ≤ 14 := by unfold st; split <;> omega
  let F : Nat → Nat → Nat → Prop := fun a b y => dB (mem 123) (pa y0) a ≠ -4 ∧ dB (mem 123) (pb y0) b ≠ -4 ∧ y = cd (dB (mem 123) (pa y0) a) (dB (mem 123) (pb y0) b) (if pR (mem 123) (dB (mem 123) (pa y0) a) = pR (mem 123) (dB (mem 123) (pb y0) b) then y0 % 6 + 1 else 0)
  have inner : ∀ (i : Nat), (∀ m : zMem, tJ s0 (stT (mem 123) kk) T m k y0 (lP (st (mem 123)) F (i + 1) 0) → tFr mem m → zG (d + 8) M_Mo_layTalk 26 [(2, Int.ofNat 122), (0, (y0 : Int)), (0, (kk : Int)), (0, pa y0), (0, pb y0), (0, ((i + 1 : Nat) : Int)), (9, 0), (9, 0), (9, 0), (9, 0)] [] m Q) → (i : Int) < st (mem 123) → ∀ (n j : Nat) (m : zMem), (j : Int) + n = st (mem 123) → tJ s0 (stT (mem 123) kk) T m k y0 (lP (st (mem 123)) F i j) → tFr mem m → zG (d + 8) M_Mo_layTalk 48 [(2, Int.ofNat 122), (0, (y0 : Int)), (0, (kk : Int)), (0, pa y0), (0, pb y0), (0, (i : Int)), (0, dB (mem 123) (pa y0) i), (0, (j : Int)), (9, 0), (9, 0)] [] m Q := by
    intro i hnx hi' n
    have nx : ∀ (j : Nat) (m : zMem), (st (mem 123) ≤ j ∨ ∀ y b, ¬ F i b y) → tJ s0 (stT (mem 123) kk) T m k y0 (lP (st (mem 123)) F i j) → tFr mem m → ∀ x2 : Int, x2 = zadd i 1 → zG (d + 8) M_Mo_layTalk 26 [(2, Int.ofNat 122), (0, (y0 : Int)), (0, (kk : Int)), (0, pa y0), (0, pb y0), (0, x2), (9, 0), (9, 0), (9, 0), (9, 0)] [] m Q := by
      intro j m hj hJ hf x2 e2
      rw [za (by omega)] at e2
      rw [e2]
      exact hnx m (hJ.cg (fun y hy => lP_i (by rcases hj with q | q; exact Or.inl q; exact Or.inr (q y)) hy)) hf
    induction n with
    | zero =>
      intro j m hj hJ hf
      have e3 := hf.pg
      refine v_Mo_layTalk_48 (c_Mo_stays (d := d + 5) ?_)
      rw [e3]
      exact ⟨fun c => nx j m (Or.inl c) hJ hf, fun c => by omega⟩
    | succ n ih =>
      intro j m hj hJ hf
      have e3 := hf.pg
      refine v_Mo_layTalk_48 (c_Mo_stays (d := d + 5) ?_)
      rw [e3]
      refine ⟨fun c => by omega, fun c => ⟨fun c1 => nx j m (Or.inr (fun y b q => q.1 c1)) hJ hf, fun c1 => ?_⟩⟩
      refine c_Mo_doneBy (d := d + 1) (pl := pb y0) (by rw [e3]; exact cb.1) (by rw [e3]; exact hD) (by rw [e3]; exact c) ?_
      rw [e3]
      refine ⟨fun c2 x5 e5 => ?_, fun c2 => ?_⟩
      · rw [za (by omega)] at e5
        rw [e5]
        refine ih (j + 1) m (by omega) (hJ.cg (fun y hy => ?_)) hf
        rcases lP_j hy with q | q
        · exact q
        · exact absurd c2 q.2.1
      · have da := dB_pdn ha0 c1
        have db := dB_pdn hb0 c2
        have oa := da.ok hD hL ca
        have ob := db.ok hD hL cb
        have hs : stT (mem 123) kk y0 (cd (dB (mem 123) (pa y0) i) (dB (mem 123) (pb y0) j) (if pR (mem 123) (dB (mem 123) (pa y0) i) = pR (mem 123) (dB (mem 123) (pb y0) j) then y0 % 6 + 1 else 0)) := ⟨hlt, _, _, da, db, rfl⟩
        have hz := (hs.ok hD hL hk hi).2
        have hat := hJ.at_
        have go : ∀ (l : Nat), l = (if pR (mem 123) (dB (mem 123) (pa y0) i) = pR (mem 123) (dB (mem 123) (pb y0) j) then y0 % 6 + 1 else 0) → zC (d + 7) K_Mo_findsTwo [(2, Int.ofNat 122), (0, zadd (zmul 6 (zadd (zmul 38 (zdiv (dB (mem 123) (pa y0) i) 15)) (zdiv (dB (mem 123) (pb y0) j) 15))) (l : Int)), (0, zadd (m 137 y0) 1)] m (fun r8 m5 => ∀ x9 : Int, x9 = zadd j 1 → zG (d + 8) M_Mo_layTalk 48 [(2, Int.ofNat 122), (0, (y0 : Int)), (0, (kk : Int)), (0, pa y0), (0, pb y0), (0, (i : Int)), (0, dB (mem 123) (pa y0) i), (0, x9), (9, 0), (9, 0)] [] m5 Q) := by
          intro l hl
          rw [cd_e oa ob (by rw [hl]; split <;> omega), za (by omega)]
          refine hJ.find (d := d + 6) (z := cd (dB (mem 123) (pa y0) i) (dB (mem 123) (pb y0) j) l) (by rw [hl]; exact hs) (by rw [hl]; exact hz) (fun m' hJ' hf' _ x9 e9 => ?_)
          rw [za (by omega)] at e9
          rw [e9]
          refine ih (j + 1) m' (by omega) (hJ'.cg (fun y hy => ?_)) (hf.trans hf')
          rcases lP_j hy with q | q
          · exact Or.inl q
          · right; rw [hl]; exact q.2.2
        refine c_Mo_roomAt (d := d + 6) ⟨oa.1.1, oa.1.2.1⟩ (c_Mo_roomAt (d := d + 6) ⟨ob.1.1, ob.1.2.1⟩ ?_)
        rw [e3, Int.toNat_natCast]
        refine ⟨fun c3 => ⟨fun _ => ⟨by omega, ?_⟩, fun q => by omega⟩, fun c3 x13 e13 => ?_⟩
        · exact go 0 (by rw [if_neg c3])
        · rw [zr (by omega) (by omega), za (by omega)] at e13
          refine ⟨fun _ => ⟨by omega, ?_⟩, fun q => by omega⟩
          rw [e13]
          have := go (y0 % 6 + 1) (by rw [if_pos c3])
          rw [show (((y0 % 6 + 1 : Nat)) : Int) = (y0 : Int) % 6 + 1 by omega] at this
          exact this
  have outer : ∀ (n i : Nat) (m : zMem), (i : Int) + n = st (mem 123) → tJ s0 (stT (mem 123) kk) T m k y0 (lP (st (mem 123)) F i 0) → tFr mem m → zG (d + 8) M_Mo_layTalk 26 [(2, Int.ofNat 122), (0, (y0 : Int)), (0, (kk : Int)), (0, pa y0), (0, pb y0), (0, (i : Int)), (9, 0), (9, 0), (9, 0), (9, 0)] [] m Q := by
    intro n
    induction n with
    | zero =>
      intro i m hi' hJ hf
      have e3 := hf.pg
      refine v_Mo_layTalk_26 (c_Mo_stays (d := d + 5) ?_)
      rw [e3]
      refine ⟨fun c => hQ m (hJ.cg (fun y hy => ?_)) hf, fun c => by omega⟩
      obtain ⟨-, ta, tb, h1, h2, h3⟩ := hy
      obtain ⟨a, a1, a2, a3⟩ := pdn_dB ha0 hD (h1.ok hD hL ca) h1
      obtain ⟨b, b1, b2, b3⟩ := pdn_dB hb0 hD (h2.ok hD hL cb) h2
      exact ⟨a, b, by omega, b1, a3, b3, by rw [a2, b2]; exact h3⟩
    | succ n ih =>
      intro i m hi' hJ hf
      have e3 := hf.pg
      refine v_Mo_layTalk_26 (c_Mo_stays (d := d + 5) ?_)
      rw [e3]
      refine ⟨fun c => by omega, fun c => ?_⟩
      refine c_Mo_doneBy (d := d + 1) (pl := pa y0) (by rw [e3]; exact ca.1) (by rw [e3]; exact hD) (by rw [e3]; exact c) ?_
      rw [e3]
      exact inner i (fun m' hJ' hf' => ih (i + 1) m' (by omega) hJ' hf') c (st (mem 123)).toNat 0 m (by omega) hJ hf
  refine v_Mo_layTalk fun x1 e1 x2 e2 => ?_
  have ex1 : x1 = pa y0 := by
    rw [e1, zd (x := (y0 : Int)) (by omega) (by omega), zd (by omega) (by omega), zm (by omega)]
    unfold pa
    omega
  have ex2 : x2 = pb y0 := by
    rw [e2, zd (x := (y0 : Int)) (by omega) (by omega), zr (by omega) (by omega), zm (by omega)]
    unfold pb
    omega
  rw [ex1, ex2]
  exact outer (st (mem 123)).toNat 0 mem (by omega) (h.cg (fun y hy => by obtain ⟨a, b, h1, -⟩ := hy; omega)) tFr.refl
end
