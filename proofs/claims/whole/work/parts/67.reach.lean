section
/-! Where one can come: what the search finds. -/
variable {d w : Nat} {mem m m' m2 : zMem} {Q : Int → zMem → Prop} {R S : zMem → Prop} {g : zPg} {b : zBf} {rm pl r t u p : Int} {k s : Nat}
def pRn (g : zPg) (sd : Int → Prop) : Nat → Int → Prop
  | 0, p => sd p
  | n + 1, p => ∃ q k, pRn g sd n q ∧ pMay g q k ∧ p = pStep g q k
def pRe (g : zPg) (sd : Int → Prop) (p : Int) : Prop := ∃ n, pRn g sd n p
theorem pRe.seed {sd : Int → Prop} (h : sd p) : pRe g sd p := ⟨0, h⟩
theorem pRe.step {sd : Int → Prop} (h : pRe g sd p) {k : Nat} (hm : pMay g p k) : pRe g sd (pStep g p k) := by
  obtain ⟨n, hn⟩ := h
  exact ⟨n + 1, p, k, hn, hm, rfl⟩
theorem pRe.ind {sd P : Int → Prop} (h0 : ∀ p, sd p → P p) (h1 : ∀ p k, pRe g sd p → P p → pMay g p k → P (pStep g p k)) {p : Int} (h : pRe g sd p) : P p := by
  obtain ⟨n, hn⟩ := h
  induction n generalizing p with
  | zero => exact h0 p hn
  | succ n ih =>
    obtain ⟨q, k, a, b, c⟩ := hn
    rw [c]
    exact h1 q k ⟨n, a⟩ (ih a) b
theorem bDo_snd {sd : Int → Prop} (h : ∀ i, i < b.1 → pRe g sd (b.2 i).1) (hk : k < b.1) {d : Nat} : ∀ i, i < (bDo g k b d).1 → pRe g sd ((bDo g k b d).2 i).1 := by
  unfold bDo
  split
  · rename_i q
    intro i hi
    by_cases e : i = b.1
    · rw [e, bPush_at]
      exact (h k hk).step q.1
    · have hi2 : i < b.1 := by have : i < b.1 + 1 := hi; omega
      rw [(bPush_le _ _ _).2 i hi2]
      exact h i hi2
  · exact h
theorem bSp_snd {sd : Int → Prop} (h : ∀ i, i < b.1 → pRe g sd (b.2 i).1) (hk : k < b.1) : ∀ d i, i < (bSp g k d b).1 → pRe g sd ((bSp g k d b).2 i).1
  | 0 => h
  | d + 1 => bDo_snd (bSp_snd h hk d) (Nat.lt_of_lt_of_le hk (bSp_le d).1)
theorem bQ_y (q : k < (bQ g b k).1) : bQ g b (k + 1) = bSp g k (gN g).toNat (bQ g b k) := by
  show (if _ then _ else _) = _
  rw [if_pos q]
theorem bQ_n (q : ¬ k < (bQ g b k).1) : bQ g b (k + 1) = bQ g b k := by
  show (if _ then _ else _) = _
  rw [if_neg q]
theorem bQ_snd {sd : Int → Prop} (h : ∀ i, i < b.1 → pRe g sd (b.2 i).1) : ∀ k i, i < (bQ g b k).1 → pRe g sd ((bQ g b k).2 i).1
  | 0 => h
  | k + 1 => by
    by_cases q : k < (bQ g b k).1
    · rw [bQ_y q]
      exact bSp_snd (bQ_snd h k) q _
    · rw [bQ_n q]
      exact bQ_snd h k
theorem bDo_in {d : Nat} (hm : pMay g (b.2 k).1 d) : bIn (bDo g k b d) (pStep g (b.2 k).1 d) := by
  unfold bDo
  split
  · rw [bPush_in]; exact Or.inr rfl
  · rename_i q
    exact Classical.byContradiction fun z => q ⟨hm, z⟩
theorem bSp_in (hk : k < b.1) {d : Nat} (hm : pMay g (b.2 k).1 d) : ∀ n, d < n → bIn (bSp g k n b) (pStep g (b.2 k).1 d)
  | 0, h => absurd h (Nat.not_lt_zero _)
  | n + 1, h => by
    have e : (bSp g k n b).2 k = b.2 k := (bSp_le n).2 k hk
    by_cases q : d = n
    · subst q
      have := bDo_in (g := g) (b := bSp g k d b) (k := k) (d := d) (by rw [e]; exact hm)
      rw [e] at this
      exact this
    · exact bDo_le.in (bSp_in hk hm n (by omega))
theorem bV_reach (hD : gDo g) (hw : bWf g s b) : (∃ i, bV g b i ∧ (bE g b i).1 = p) ↔ pRe g (bIn b) p := by
  constructor
  · rintro ⟨i, hi, e⟩
    have := bQ_snd (g := g) (b := b) (sd := bIn b) (fun i hi => pRe.seed ⟨i, hi, rfl⟩) i i hi
    rw [← e]
    exact this
  · intro h
    refine pRe.ind (P := fun p => ∃ i, bV g b i ∧ (bE g b i).1 = p) (fun p hp => ?_) (fun p k _ hp hm => ?_) h
    · obtain ⟨i, hi, e⟩ := hp
      have hi2 : i < (bQ g b 0).1 := hi
      refine ⟨i, bV_of hi2, ?_⟩
      rw [← bE_of hi2]
      exact e
    · obtain ⟨i, hi, e⟩ := hp
      have hi2 : i < (bQ g b i).1 := hi
      have hkN : (k : Int) < gN g := hm.1.1
      have e2 : (bQ g b i).2 i = bE g b i := rfl
      have h1 := bSp_in (g := g) (b := bQ g b i) (k := i) hi2 (d := k) (by rw [e2, e]; exact hm) (gN g).toNat (by omega)
      have h2 : bQ g b (i + 1) = bSp g i (gN g).toNat (bQ g b i) := by
        show (if _ then _ else _) = _
        rw [if_pos hi2]
      rw [← h2, e2, e] at h1
      obtain ⟨j, hj, ej⟩ := h1
      exact ⟨j, bV_of hj, by rw [← bE_of hj]; exact ej⟩
/-- a room to which a NEW one from a can come -/
def rch (g : zPg) (a r : Int) : Prop := ∃ p, pRe g (fun q => q = pNew a) p ∧ pR g p = r
theorem bRm_rch (hD : gDo g) {a v : Int} (ha : 0 ≤ a ∧ a < 10) (h : bRm g (bS (pNew a)) v) : zI v ∧ ∀ j : Nat, j < 32 → (zB v j ↔ rch g a j) := by
  have hp : pOK g (pNew a) := (pRep.new (g := g) ha).1
  refine ⟨h.1, fun j hj => ?_⟩
  rw [h.2 j hj]
  have e : bIn (bS (pNew a)) = fun q => q = pNew a := by
    funext q
    exact propext bS_in
  constructor
  · rintro ⟨i, h1, h2⟩
    refine ⟨(bE g (bS (pNew a)) i).1, ?_, h2⟩
    have := (bV_reach (p := (bE g (bS (pNew a)) i).1) hD (bS_wf hp)).mp ⟨i, h1, rfl⟩
    rw [e] at this
    exact this
  · rintro ⟨p, h1, h2⟩
    rw [← e] at h1
    obtain ⟨i, h3, h4⟩ := (bV_reach hD (bS_wf hp)).mpr h1
    exact ⟨i, h3, by rw [h4]; exact h2⟩
theorem pRe.ok (hD : gDo g) {sd : Int → Prop} (h0 : ∀ p, sd p → pOK g p) (h : pRe g sd p) : pOK g p :=
  pRe.ind (P := fun p => pOK g p) h0 (fun p k _ hp hm => (pStep_ok hD hp (d := k) hm.1.1).1) h
theorem gBy_O {k : Nat} (hD : gDo g) (h : gO g r k) : gO g (gBy g k r) k ∧ gBy g k (gBy g k r) = r ∧ gBy g k r ≠ r := by
  obtain ⟨h1, h2, h3⟩ := h
  obtain ⟨-, -, dab, -⟩ := hD.2.2 k h1
  unfold gBy gO
  by_cases q : gA g k = r
  · rw [if_pos q, if_neg (by omega)]
    exact ⟨⟨h1, h2, Or.inr rfl⟩, q, by omega⟩
  · rw [if_neg q, if_pos rfl]
    exact ⟨⟨h1, h2, Or.inl rfl⟩, h3.resolve_left q, q⟩
/-- the reference's rooms that a NEW one comes to -/
theorem c_Mo_newRooms {a : Int} (hD : gDo (mem 123)) (ha : 0 ≤ a ∧ a < 10) (hQ : ∀ (m' : zMem) (v : Int), zI v → (∀ j : Nat, j < 32 → (zB v j ↔ rch (mem 123) a j)) → fFr mem m' → Q v m') :
    zC (d + 4) K_Mo_newIn [(0, a)] mem (fun r1 m1 => zC (d + 4) K_Mo_laysFrom [(2, Int.ofNat 122), (0, r1)] m1 (fun r2 m2 => zC (d + 4) K_Mo_foundRooms [(2, Int.ofNat 122)] m2 Q)) := by
  have hp : pOK (mem 123) (pNew a) := (pRep.new (g := mem 123) ha).1
  refine c_Mo_newIn (d := d + 2) ha (c_Mo_laysFrom (d := d) hD hp (fun m1 K hr hK hf => ?_))
  have e3 := hf.pg
  refine c_Mo_foundRooms (d := d + 2) (s := 1) (b := bS (pNew a)) (K := K) (by rw [e3]; exact bS_wf hp) (by rw [e3]; exact hr) (by rw [e3]; exact hD) (by rw [e3]; exact hK) (fun v hv => ?_)
  rw [e3] at hv
  obtain ⟨h1, h2⟩ := bRm_rch hD ha hv
  exact hQ m1 v h1 h2 hf
/-! secret -/
theorem l_Od_secret (hD : gDo g) (hH : Hs mem 2 g rm) (hrm : rm ≤ 10) (hQ : ∀ v, zI v → (∀ j : Nat, j < 32 → (zB v j ↔ (j : Int) < rm ∧ ∀ k, ¬ gO g j k)) → Q v mem) : ∀ (n : Nat) (v i : Int), 0 ≤ i → i ≤ rm → rm - i ≤ n → zI v → (∀ j : Nat, j < 32 → (zB v j ↔ (j : Int) < i ∧ ∀ k, ¬ gO g j k)) → zG (d + 1) M_Od_secret 4 [(2, Int.ofNat 0), (0, v), (0, i)] [] mem Q := by
  have h0 := hH.1
  have hN := hD.1
  intro n
  induction n with
  | zero =>
    intro v i h1 h2 h3 hv hb
    refine v_Od_secret_4 ⟨fun c => hQ v hv (by rw [show rm = i by omega]; exact hb), fun c => by omega⟩
  | succ n ih =>
    intro v i h1 h2 h3 hv hb
    refine zG.rg fun _ _ hrg => ?_
    refine v_Od_secret_4 ⟨fun c => hQ v hv (by rw [show rm = i by omega]; exact hb), fun c => ⟨by omega, ?_⟩⟩
    have hz : zI (mem 6 i.toNat) := zrg_i hrg (by decide) _
    have hbit : ∀ k, k < 32 → (zB (mem 6 i.toNat) k ↔ gO g i k) := fun k hk => by
      have := hH.2.2.2.2.2.1 i.toNat (by omega) k hk
      rw [Int.toNat_of_nonneg h1] at this
      exact this
    have hall : mem 6 i.toNat = 0 ↔ ∀ k, ¬ gO g i k := by
      rw [zB_z hz]
      constructor
      · intro q k hk
        have : (k : Int) < gN g := hk.1
        exact q k (by omega) ((hbit k (by omega)).mpr hk)
      · intro q k hk z
        exact q k ((hbit k hk).mp z)
    refine ⟨fun c2 x1 e1 => ?_, fun c2 x2 e2 x3 e3 => ?_⟩
    · rw [za (by omega)] at e1
      rw [e1]
      exact ih v (i + 1) (by omega) (by omega) (by omega) hv (zB_skip (P := fun j => ∀ k, ¬ gO g j k) hb (fun q => c2 (hall.mpr q)))
    · rw [za (by omega)] at e3
      rw [e2, e3]
      exact ih _ (i + 1) (by omega) (by omega) (by omega) (zor_I _ _) (zB_step (P := fun j => ∀ k, ¬ gO g j k) h1 (by omega) hb (hall.mp c2))
theorem rch_room (hD : gDo g) {a : Int} (ha : 0 ≤ a ∧ a < 10) (h : rch g a r) : r = a ∨ ∃ k, gO g r k := by
  obtain ⟨p, h1, h2⟩ := h
  have hp0 : ∀ q, q = pNew a → pOK g q := fun q e => by rw [e]; exact (pRep.new (g := g) ha).1
  have := pRe.ind (g := g) (sd := fun q => q = pNew a) (P := fun p => pR g p = a ∨ ∃ k, gO g (pR g p) k) (fun p e => ?_) (fun p k hre _ hm => ?_) h1
  · rw [h2] at this; exact this
  · left
    rw [e]
    exact (pRep.new (g := g) ha).2.1
  · right
    have hok := hre.ok hD hp0
    obtain ⟨-, -, e, -⟩ := pStep_ok hD hok (d := k) hm.1.1
    rw [e]
    exact ⟨k, (gBy_O hD hm.1).1⟩
theorem rch_one (hD : gDo g) {k : Nat} (h : gO g r k) : rch g (gBy g k r) r := by
  obtain ⟨h1, h2, h3⟩ := gBy_O hD h
  obtain ⟨da, db, -⟩ := hD.2.2 k h.1
  have hb : 0 ≤ gBy g k r ∧ gBy g k r < 10 := by unfold gBy; split <;> omega
  have hn := pRep.new (g := g) hb
  have hm : pMay g (pNew (gBy g k r)) k := by
    rw [hn.may]
    refine ⟨h1, fun q => ?_⟩
    have := q.1
    unfold zn4 at this
    rw [if_pos rfl] at this
    omega
  refine ⟨pStep g (pNew (gBy g k r)) k, pRe.step (sd := fun q => q = pNew (gBy g k r)) (pRe.seed rfl) hm, ?_⟩
  rw [(pStep_ok hD hn.1 (d := k) h.1).2.2.1, hn.2.1, h2]
theorem l_Mo_secret (hI : Ipal mem) (hQ : ∀ m' v, zI v → (∀ j : Nat, j < 32 → (zB v j ↔ (j : Int) < mem 122 1 ∧ ∀ k, ¬ gO (mem 123) j k)) → fFr mem m' → Q v m') : ∀ (n i : Nat) (v : Int) (m : zMem), i + n = (mem 122 1).toNat → zI v → (∀ j : Nat, j < 32 → (zB v j ↔ ∃ a : Nat, a < i ∧ a ≠ j ∧ rch (mem 123) a j)) → fFr mem m → zG (d + 5) M_Mo_secret 4 [(2, Int.ofNat 122), (0, v), (0, (i : Int))] [] m Q := by
  obtain ⟨⟨w1, w2, w3, w4⟩, hP⟩ := id hI
  intro n
  induction n with
  | zero =>
    intro i v m hi hv hb hf
    have e1 : m 122 1 = mem 122 1 := hf.2 1 (by omega)
    refine v_Mo_secret_4 ⟨fun c => ?_, fun c => by omega⟩
    rw [e1]
    refine hQ m _ (zand_I _ _) (fun j hj => ?_) hf
    rw [zB_and, zB_not _ hj, hb j hj]
    have h1 : zB (zsub (zshl 1 (mem 122 1)) 1) j ↔ (j : Int) < mem 122 1 := by
      have key : ∀ n, n < 11 → ∀ j, j < 32 → (zb (zsub (zshl 1 (Int.ofNat n)) 1) j = decide (j < n)) := by decide +kernel
      have := key (mem 122 1).toNat (by omega) j hj
      rw [show Int.ofNat (mem 122 1).toNat = mem 122 1 by simp; omega] at this
      unfold zB
      rw [this, decide_eq_true_iff]
      omega
    rw [h1]
    refine and_congr_right fun hjr => ?_
    constructor
    · intro q k hk
      apply q
      have hby := gBy_O w1 hk
      obtain ⟨da, db, -⟩ := w1.2.2 k hk.1
      obtain ⟨ra, rb⟩ := w3 k hk.1
      have hb2 : 0 ≤ gBy (mem 123) k j ∧ gBy (mem 123) k j < mem 122 1 := by unfold gBy; split <;> omega
      refine ⟨(gBy (mem 123) k j).toNat, by omega, by omega, ?_⟩
      rw [Int.toNat_of_nonneg hb2.1]
      exact rch_one w1 hk
    · rintro q ⟨a, h1, h2, h3⟩
      rcases rch_room w1 (by omega) h3 with z | ⟨k, hk⟩
      · omega
      · exact q k hk
  | succ n ih =>
    intro i v m hi hv hb hf
    have e1 : m 122 1 = mem 122 1 := hf.2 1 (by omega)
    have e3 := hf.pg
    refine v_Mo_secret_4 ⟨fun c => by omega, fun c => ?_⟩
    refine c_Mo_newRooms (d := d) (mem := m) (Q := fun r3 m3 => ∀ x4 : Int, x4 = zor v (zand r3 (zxor (zshl 1 (i : Int)) (-1))) → ∀ x5 : Int, x5 = zadd (i : Int) 1 → zG (d + 5) M_Mo_secret 4 [(2, Int.ofNat 122), (0, x4), (0, x5)] [] m3 Q) (by rw [e3]; exact w1) (by omega) (fun m3 r3 h1 h2 hf3 x4 f4 x5 f5 => ?_)
    rw [za (by omega)] at f5
    rw [f5]
    refine ih (i + 1) x4 m3 (by omega) (f4 ▸ zor_I _ _) (fun j hj => ?_) (hf.trans hf3)
    rw [f4, zB_or, (zB_put hj (by omega) (by omega)).2, hb j hj, h2 j hj, e3]
    constructor
    · rintro (⟨a, q1, q2, q3⟩ | ⟨q1, q2⟩)
      · exact ⟨a, by omega, q2, q3⟩
      · exact ⟨i, by omega, by omega, q1⟩
    · rintro ⟨a, q1, q2, q3⟩
      by_cases e : a = i
      · right; rw [e] at q3; exact ⟨q3, by omega⟩
      · exact Or.inl ⟨a, by omega, q2, q3⟩
theorem T_secret (hI : Inv mem) (hR : ∀ m', Inv m' → R m') : zC (d + 5) K_Od_secret [(2, Int.ofNat 0)] mem (fun r1 m1 => zC (d + 5) K_Mo_secret [(2, Int.ofNat 122)] m1 (fun r2 m2 => (r1 = r2 → R m2) ∧ (r1 ≠ r2 → S m2))) := by
  obtain ⟨⟨w1, w2, w3, w4⟩, hP⟩ := id hI.1
  refine v_Od_secret (l_Od_secret (d := d + 4) w1 hP.1 w2.2 (fun v hv hb => v_Mo_secret ?_) (mem 122 1).toNat 0 0 (by omega) (by omega) (by omega) zI_0 (fun j _ => ⟨fun q => absurd q (zB_0 j), fun q => by omega⟩))
  refine l_Mo_secret (d := d) (mem := mem) hI.1 (fun m' v' hv' hb' hf => ⟨fun _ => hR m' (hI.sc hf.sc), fun q => absurd (zB_ext hv hv' (fun j hj => by rw [hb j hj, hb' j hj])) q⟩) (mem 122 1).toNat 0 0 mem (by omega) zI_0 (fun j _ => ⟨fun q => absurd q (zB_0 j), fun ⟨a, q, _⟩ => by omega⟩) fFr.refl
end
