section
/-! Counting, and who comes where: what pairs() stands on. -/
variable {d w : Nat} {mem m m' m2 : zMem} {Q : Int → zMem → Prop} {R S : zMem → Prop} {g : zPg} {b : zBf} {rm pl r t u p : Int} {k s : Nat}
noncomputable def zct (P : Nat → Prop) : Nat → Int
  | 0 => 0
  | n + 1 => zct P n + @ite Int (P n) (Classical.propDecidable _) 1 0
def zsum (f : Nat → Int) : Nat → Int
  | 0 => 0
  | n + 1 => zsum f n + f n
theorem zct_y {P : Nat → Prop} {n : Nat} (h : P n) : zct P (n + 1) = zct P n + 1 := by
  show zct P n + @ite Int (P n) (Classical.propDecidable _) 1 0 = _
  rw [if_pos h]
theorem zct_n {P : Nat → Prop} {n : Nat} (h : ¬ P n) : zct P (n + 1) = zct P n := by
  show zct P n + @ite Int (P n) (Classical.propDecidable _) 1 0 = _
  rw [if_neg h]
  omega
theorem zct_cg {P P' : Nat → Prop} : ∀ n, (∀ k, k < n → (P k ↔ P' k)) → zct P n = zct P' n
  | 0, _ => rfl
  | n + 1, h => by
    have ih := zct_cg n (fun k hk => h k (by omega))
    by_cases q : P n
    · rw [zct_y q, zct_y ((h n (by omega)).mp q), ih]
    · rw [zct_n q, zct_n (fun z => q ((h n (by omega)).mpr z)), ih]
theorem zct_b (P : Nat → Prop) : ∀ n, 0 ≤ zct P n ∧ zct P n ≤ n
  | 0 => ⟨Int.le_refl _, Int.le_refl _⟩
  | n + 1 => by
    have ih := zct_b P n
    by_cases q : P n
    · rw [zct_y q]; omega
    · rw [zct_n q]; omega
theorem zct_le {P P' : Nat → Prop} : ∀ n, (∀ k, k < n → P k → P' k) → zct P n ≤ zct P' n
  | 0, _ => Int.le_refl _
  | n + 1, h => by
    have ih := zct_le n (fun k hk => h k (by omega))
    by_cases q : P n
    · rw [zct_y q, zct_y (h n (by omega) q)]; omega
    · rw [zct_n q]
      by_cases q' : P' n
      · rw [zct_y q']; omega
      · rw [zct_n q']; exact ih
theorem zct_lt {P P' : Nat → Prop} {k0 : Nat} : ∀ n, (∀ k, k < n → P k → P' k) → k0 < n → ¬ P k0 → P' k0 → zct P n + 1 ≤ zct P' n
  | 0, _, h, _, _ => absurd h (Nat.not_lt_zero _)
  | n + 1, h, hk, h1, h2 => by
    by_cases e : k0 = n
    · subst e
      rw [zct_n h1, zct_y h2]
      have := zct_le k0 (fun k hk => h k (by omega))
      omega
    · have ih := zct_lt n (fun k hk => h k (by omega)) (by omega) h1 h2
      by_cases q : P n
      · rw [zct_y q, zct_y (h n (by omega) q)]; omega
      · rw [zct_n q]
        by_cases q' : P' n
        · rw [zct_y q']; omega
        · rw [zct_n q']; exact ih
theorem zct_up {P : Nat → Prop} {m : Nat} : ∀ n, m ≤ n → (∀ k, m ≤ k → k < n → ¬ P k) → zct P n = zct P m
  | 0, h, _ => by rw [show m = 0 by omega]
  | n + 1, h, hn => by
    by_cases e : m = n + 1
    · rw [e]
    · rw [zct_n (hn n (by omega) (by omega)), zct_up n (by omega) (fun k k1 k2 => hn k k1 (by omega))]
theorem zpc_ct (x : Int) : ∀ n, zpc n x = zct (fun k => zB x k) n
  | 0 => rfl
  | n + 1 => by
    have ih := zpc_ct x n
    show zpc n x + (if zb x n = true then 1 else 0) = _
    by_cases q : zB x n
    · rw [zct_y (P := fun k => zB x k) q, ih, if_pos (show zb x n = true from q)]
    · rw [zct_n (P := fun k => zB x k) q, ih, if_neg (show ¬ zb x n = true from q)]
      omega
theorem zsum_cg {f f' : Nat → Int} : ∀ n, (∀ k, k < n → f k = f' k) → zsum f n = zsum f' n
  | 0, _ => rfl
  | n + 1, h => by
    show zsum f n + f n = zsum f' n + f' n
    rw [zsum_cg n (fun k hk => h k (by omega)), h n (by omega)]
theorem zsum_le {f f' : Nat → Int} : ∀ n, (∀ k, k < n → f k ≤ f' k) → zsum f n ≤ zsum f' n
  | 0, _ => Int.le_refl _
  | n + 1, h => by
    have h1 := zsum_le n (fun k hk => h k (by omega))
    have h2 := h n (by omega)
    show zsum f n + f n ≤ zsum f' n + f' n
    omega
theorem zsum_lt {f f' : Nat → Int} {k0 : Nat} : ∀ n, (∀ k, k < n → f k ≤ f' k) → k0 < n → f k0 + 1 ≤ f' k0 → zsum f n + 1 ≤ zsum f' n
  | 0, _, h, _ => absurd h (Nat.not_lt_zero _)
  | n + 1, h, hk, h1 => by
    show zsum f n + f n + 1 ≤ zsum f' n + f' n
    have h2 := h n (by omega)
    by_cases e : k0 = n
    · subst e
      have := zsum_le k0 (fun k hk => h k (by omega))
      omega
    · have ih := zsum_lt n (fun k hk => h k (by omega)) (by omega) h1
      omega
theorem zsum_b {f : Nat → Int} {c : Int} : ∀ n, (∀ k, k < n → 0 ≤ f k ∧ f k ≤ c) → 0 ≤ zsum f n ∧ zsum f n ≤ n * c
  | 0, _ => by
    show 0 ≤ (0 : Int) ∧ (0 : Int) ≤ ((0 : Nat) : Int) * c
    simp
  | n + 1, h => by
    have ih := zsum_b n (fun k hk => h k (by omega))
    have h2 := h n (by omega)
    show 0 ≤ zsum f n + f n ∧ zsum f n + f n ≤ ((n + 1 : Nat) : Int) * c
    have : ((n + 1 : Nat) : Int) * c = n * c + c := by
      rw [Int.natCast_add, Int.add_mul]
      simp
    omega
theorem zsum_add (f f' : Nat → Int) : ∀ n, zsum (fun k => f k + f' k) n = zsum f n + zsum f' n
  | 0 => rfl
  | n + 1 => by
    show zsum (fun k => f k + f' k) n + (f n + f' n) = zsum f n + f n + (zsum f' n + f' n)
    rw [zsum_add f f' n]
    omega
theorem zsum_ct (P : Nat → Prop) : ∀ n, zsum (fun k => @ite Int (P k) (Classical.propDecidable _) 1 0) n = zct P n
  | 0 => rfl
  | n + 1 => by
    show zsum (fun k => @ite Int (P k) (Classical.propDecidable _) 1 0) n + @ite Int (P n) (Classical.propDecidable _) 1 0 = zct P n + @ite Int (P n) (Classical.propDecidable _) 1 0
    rw [zsum_ct P n]
theorem zsum_swap (P : Nat → Nat → Prop) (m : Nat) : ∀ n, zsum (fun i => zct (P i) m) n = zsum (fun j => zct (fun i => P i j) n) m
  | 0 => by
    show (0 : Int) = _
    have : ∀ m, (0 : Int) = zsum (fun _ => (0 : Int)) m := by
      intro m
      induction m with
      | zero => rfl
      | succ m ih =>
        show (0 : Int) = zsum (fun _ => (0 : Int)) m + 0
        omega
    exact this m
  | n + 1 => by
    show zsum (fun i => zct (P i) m) n + zct (P n) m = _
    rw [zsum_swap P m n, ← zsum_ct (P n) m, ← zsum_add]
    rfl
/-- from room to room, by any open doors -/
def rcN (g : zPg) (a : Int) : Nat → Int → Prop
  | 0, r => r = a
  | n + 1, r => ∃ q k, rcN g a n q ∧ gO g q k ∧ r = gBy g k q
def rcn (g : zPg) (a r : Int) : Prop := ∃ n, rcN g a n r
def rlv (g : zPg) (a : Int) (n : Nat) (r : Int) : Prop := rcN g a n r ∧ ∀ j, j < n → ¬ rcN g a j r
theorem rlv_fn {a : Int} {n n' : Nat} (h : rlv g a n r) (h' : rlv g a n' r) : n = n' := by
  rcases Nat.lt_trichotomy n n' with q | q | q
  · exact absurd h.1 (h'.2 n q)
  · exact q
  · exact absurd h'.1 (h.2 n' q)
def rdl (g : zPg) (a : Int) (n k : Nat) : Prop := (rlv g a n (gA g k) ∧ rlv g a (n + 1) (gB g k)) ∨ (rlv g a n (gB g k) ∧ rlv g a (n + 1) (gA g k))
theorem rdl_fn {a : Int} {n n' : Nat} (h : rdl g a n k) (h' : rdl g a n' k) : n = n' := by
  rcases h with ⟨a1, a2⟩ | ⟨a1, a2⟩ <;> rcases h' with ⟨b1, b2⟩ | ⟨b1, b2⟩
  · exact rlv_fn a1 b1
  · have := rlv_fn a1 b2
    have := rlv_fn a2 b1
    omega
  · have := rlv_fn a1 b2
    have := rlv_fn a2 b1
    omega
  · exact rlv_fn a1 b1
/-- a least way takes no door twice: no law but that of the colours bars it -/
theorem rlv_place (hD : gDo g) (hL : gL g ≠ 2) {a : Int} (ha : 0 ≤ a ∧ a < 10) : ∀ (n : Nat) (r : Int), rlv g a n r → ∃ p, pRe g (fun q => q = pNew a) p ∧ pOK g p ∧ pR g p = r ∧ (0 ≤ pL p → ∃ m, m + 1 = n ∧ rdl g a m (pL p).toNat) ∧ (gL g = 1 → 0 ≤ pB p → ∃ m, m + 2 = n ∧ rdl g a m (pB p).toNat)
  | 0, r, h => by
    have hn := pRep.new (g := g) ha
    have e : r = a := h.1
    refine ⟨pNew a, pRe.seed rfl, hn.1, by rw [hn.2.1, e], fun q => ?_, fun q z => ?_⟩
    · rw [hn.2.2.1] at q
      omega
    · rw [hn.2.2.2, if_pos q] at z
      unfold zn4 at z
      rw [if_pos rfl] at z
      omega
  | n + 1, r, h => by
    obtain ⟨⟨q, k, h1, h2, h3⟩, hmin⟩ := h
    have hq : rlv g a n q := ⟨h1, fun j hj z => hmin (j + 1) (by omega) ⟨q, k, z, h2, h3⟩⟩
    obtain ⟨p, p1, p2, p3, p4, p5⟩ := rlv_place hD hL ha n q hq
    have hby := gBy_O hD h2
    have hdl : rdl g a n k := by
      have hr : rlv g a (n + 1) r := ⟨⟨q, k, h1, h2, h3⟩, hmin⟩
      unfold rdl
      rcases h2.2.2 with z | z
      · left
        rw [z]
        refine ⟨hq, ?_⟩
        have : gBy g k q = gB g k := by unfold gBy; rw [if_pos z]
        rw [← this, ← h3]
        exact hr
      · right
        rw [z]
        refine ⟨hq, ?_⟩
        obtain ⟨-, -, dab, -⟩ := hD.2.2 k h2.1
        have : gBy g k q = gA g k := by unfold gBy; rw [if_neg (by omega)]
        rw [← this, ← h3]
        exact hr
    have hm : pMay g p k := by
      refine ⟨by rw [p3]; exact h2, fun z => ?_⟩
      obtain ⟨z0, z1⟩ := z
      have hne : (k : Int) ≠ pL p := by
        intro e
        obtain ⟨m, e1, e2⟩ := p4 z0
        rw [← e, Int.toNat_natCast] at e2
        have := rdl_fn e2 hdl
        omega
      rcases z1 with ⟨-, z2⟩ | ⟨z2, z3⟩ | ⟨z2, -⟩
      · exact hne z2
      · rcases z3 with z3 | z3
        · exact hne z3
        · obtain ⟨m, e1, e2⟩ := p5 z2 (by omega)
          rw [← z3, Int.toNat_natCast] at e2
          have := rdl_fn e2 hdl
          omega
      · exact hL z2
    obtain ⟨s1, s2, s3, s4, s5⟩ := pStep_ok hD p2 (d := k) h2.1
    refine ⟨pStep g p k, p1.step hm, s1, by rw [s3, p3, h3], fun _ => ⟨n, rfl, by rw [s4, Int.toNat_natCast]; exact hdl⟩, fun z z2 => ?_⟩
    rw [s5, if_pos z] at z2 ⊢
    have hl := pL_b p2
    have e : zn4 (pL p) = pL p ∧ 0 ≤ pL p := by
      unfold zn4 at z2 ⊢
      split at z2
      · omega
      · rename_i y
        rw [if_neg y]
        omega
    rw [e.1]
    obtain ⟨m, e1, e2⟩ := p4 e.2
    exact ⟨m, by omega, e2⟩
theorem rcn_rch (hD : gDo g) (hL : gL g ≠ 2) {a : Int} (ha : 0 ≤ a ∧ a < 10) (h : rcn g a r) : rch g a r := by
  obtain ⟨n, h1, h2⟩ := pk_least (fun n => rcN g a n r) h
  obtain ⟨p, p1, -, p3, -⟩ := rlv_place hD hL ha n r ⟨h1, h2⟩
  exact ⟨p, p1, p3⟩
theorem rch_rcn (hD : gDo g) {a : Int} (ha : 0 ≤ a ∧ a < 10) (h : rch g a r) : rcn g a r := by
  obtain ⟨p, h1, h2⟩ := h
  have hp0 : ∀ q, q = pNew a → pOK g q := fun q e => by rw [e]; exact (pRep.new (g := g) ha).1
  rw [← h2]
  refine pRe.ind (g := g) (sd := fun q => q = pNew a) (P := fun p => rcn g a (pR g p)) (fun p e => ?_) (fun p k hre ih hm => ?_) h1
  · rw [e]
    exact ⟨0, (pRep.new (g := g) ha).2.1⟩
  · obtain ⟨n, hn⟩ := ih
    have hok := hre.ok hD hp0
    refine ⟨n + 1, pR g p, k, hn, hm.1, (pStep_ok hD hok (d := k) hm.1.1).2.2.1⟩
/-- who comes into a room by a door of a colour -/
def gEn (g : zPg) (t : Nat) (r : Int) (a : Nat) : Prop := (gL g = 2 → ∃ p, pRe g (fun q => q = pNew a) p ∧ pOK g p ∧ pR g p = r ∧ 0 ≤ pL p ∧ gC g (pL p).toNat = t) ∧ (gL g ≠ 2 → rcn g a r)
theorem gEn_rule (hD : gDo g) {a : Nat} (ha : a < 10) {f : Int} (ho : gO g f k) (h : (a : Int) = f ∨ ∃ t : Nat, (gL g = 2 → (t : Int) ≠ gC g k) ∧ gEn g t f a) {c : Nat} (hc : gC g k = c) : gEn g c (gBy g k f) a := by
  refine ⟨fun hL => ?_, fun hL => ?_⟩
  · have key : ∃ p, pRe g (fun q => q = pNew a) p ∧ pOK g p ∧ pR g p = f ∧ (0 ≤ pL p → gC g (pL p).toNat ≠ gC g k) := by
      rcases h with e | ⟨t, h1, h2⟩
      · have hn := pRep.new (g := g) (r := a) (by omega)
        refine ⟨pNew a, pRe.seed rfl, hn.1, by rw [hn.2.1, e], fun q => ?_⟩
        rw [hn.2.2.1] at q
        omega
      · obtain ⟨p, p1, p2, p3, p4, p5⟩ := h2.1 hL
        exact ⟨p, p1, p2, p3, fun _ => by rw [p5]; exact h1 hL⟩
    obtain ⟨p, p1, p2, p3, p4⟩ := key
    have hm : pMay g p k := by
      refine ⟨by rw [p3]; exact ho, fun z => ?_⟩
      obtain ⟨z0, z1⟩ := z
      rcases z1 with ⟨z2, -⟩ | ⟨z2, -⟩ | ⟨-, z2⟩
      · omega
      · omega
      · exact p4 z0 z2.symm
    obtain ⟨s1, s2, s3, s4, s5⟩ := pStep_ok hD p2 (d := k) ho.1
    exact ⟨pStep g p k, p1.step hm, s1, by rw [s3, p3], by omega, by rw [s4, Int.toNat_natCast]; exact hc⟩
  · rcases h with e | ⟨t, -, h2⟩
    · exact ⟨1, f, k, e.symm, ho, rfl⟩
    · obtain ⟨n, hn⟩ := h2.2 hL
      exact ⟨n + 1, f, k, hn, ho, rfl⟩
/-- where nothing more is found, just those are found who come there -/
theorem gEn_end (hD : gDo g) (hr : ∀ k : Nat, (k : Int) < gN g → gA g k < rm ∧ gB g k < rm) (hrm : rm ≤ 10) {E : Nat → Nat → Nat → Prop} (hs : ∀ t r a, t < 4 → r < 10 → E t r a → (a : Int) < rm ∧ gEn g t r a)
    (hc : ∀ k f : Nat, gO g f k → ∀ a : Nat, (a : Int) < rm → (a = f ∨ ∃ t : Nat, t < 4 ∧ (gL g = 2 → (t : Int) ≠ gC g k) ∧ E t f a) → E (gC g k).toNat (gBy g k f).toNat a) {a r : Nat} (ha : (a : Int) < rm) (hr2 : (r : Int) < rm) : (a = r ∨ ∃ t, t < 4 ∧ E t r a) ↔ rch g a r := by
  have hN := hD.1
  have hby : ∀ k f, gO g f k → 0 ≤ gBy g k f ∧ gBy g k f < 10 := fun k f ho => by
    obtain ⟨da, db, -⟩ := hD.2.2 k ho.1
    unfold gBy
    split <;> omega
  constructor
  · rintro (e | ⟨t, h1, h2⟩)
    · refine ⟨pNew a, pRe.seed rfl, ?_⟩
      rw [(pRep.new (g := g) (r := a) (by omega)).2.1, e]
    · obtain ⟨-, h3, h4⟩ := hs t r a h1 (by omega) h2
      by_cases hL : gL g = 2
      · obtain ⟨p, p1, -, p3, -⟩ := h3 hL
        exact ⟨p, p1, p3⟩
      · exact rcn_rch hD hL (by omega) (h4 hL)
  · intro h
    by_cases hL : gL g = 2
    · obtain ⟨p, h1, h2⟩ := h
      have hp0 : ∀ q, q = pNew a → pOK g q := fun q e => by rw [e]; exact (pRep.new (g := g) (by omega)).1
      have key := pRe.ind (g := g) (sd := fun q => q = pNew a) (P := fun p => p = pNew a ∨ (0 ≤ pL p ∧ E (gC g (pL p).toNat).toNat (pR g p).toNat a ∧ (0 ≤ gC g (pL p).toNat ∧ gC g (pL p).toNat < 4))) (fun p e => Or.inl e) (fun p k hre ih hm => ?_) h1
      · rcases key with e | ⟨e1, e2, e3⟩
        · left
          rw [e, (pRep.new (g := g) (r := a) (by omega)).2.1] at h2
          omega
        · right
          rw [h2, Int.toNat_natCast] at e2
          exact ⟨(gC g (pL p).toNat).toNat, by omega, e2⟩
      · right
        have hok := hre.ok hD hp0
        have hrb := pR_b hD hok
        obtain ⟨s1, s2, s3, s4, s5⟩ := pStep_ok hD hok (d := k) hm.1.1
        obtain ⟨-, -, -, dc, -⟩ := hD.2.2 k hm.1.1
        rw [s4, s3, Int.toNat_natCast]
        refine ⟨by omega, ?_, dc⟩
        have h5 := hc k (pR g p).toNat (by rw [Int.toNat_of_nonneg hrb.1]; exact hm.1) a ha ?_
        · rw [Int.toNat_of_nonneg hrb.1] at h5
          exact h5
        · rcases ih with e | ⟨e1, e2, e3⟩
          · left
            rw [e, (pRep.new (g := g) (r := a) (by omega)).2.1]
            omega
          · right
            refine ⟨(gC g (pL p).toNat).toNat, by omega, fun _ z => ?_, e2⟩
            rw [Int.toNat_of_nonneg e3.1] at z
            exact hm.2 ⟨e1, Or.inr (Or.inr ⟨hL, z.symm⟩)⟩
    · obtain ⟨n, hn⟩ := rch_rcn hD (by omega) h
      have key : ∀ n (r : Int), rcN g a n r → 0 ≤ r ∧ r < rm ∧ ((a : Int) = r ∨ ∃ t, t < 4 ∧ E t r.toNat a) := by
        intro n
        induction n with
        | zero =>
          intro r h
          have e : r = a := h
          exact ⟨by omega, by omega, Or.inl e.symm⟩
        | succ n ih =>
          rintro r ⟨q, k, h1, h2, h3⟩
          obtain ⟨i0, i1, i2⟩ := ih q h1
          have hb := hby k q h2
          obtain ⟨ra, rb⟩ := hr k h2.1
          obtain ⟨-, -, -, dc, -⟩ := hD.2.2 k h2.1
          have hbm : gBy g k q < rm := by unfold gBy; split <;> omega
          refine ⟨by omega, by omega, Or.inr ⟨(gC g k).toNat, by omega, ?_⟩⟩
          have h5 := hc k q.toNat (by rw [Int.toNat_of_nonneg i0]; exact h2) a ha ?_
          · rw [Int.toNat_of_nonneg i0, ← h3] at h5
            exact h5
          · rcases i2 with e | ⟨t, e1, e2⟩
            · left; omega
            · exact Or.inr ⟨t, e1, fun z => absurd z hL, e2⟩
      obtain ⟨-, -, i2⟩ := key n r hn
      rcases i2 with e | ⟨t, e1, e2⟩
      · left; omega
      · right
        rw [Int.toNat_natCast] at e2
        exact ⟨t, e1, e2⟩
end
