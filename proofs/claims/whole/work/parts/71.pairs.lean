section
variable {d w : Nat} {mem m m' m2 : zMem} {Q : Int → zMem → Prop} {R S : zMem → Prop} {g : zPg} {b : zBf} {rm pl r t u p : Int} {k s : Nat}
theorem zBu_rt {t : Nat} (h : t < 4) : zrt 113 t = 114 + t ∧ zkd (114 + t) = 100 ∧ zln (114 + t) = 10 := (show ∀ t, t < 4 → zrt 113 t = 114 + t ∧ zkd (114 + t) = 100 ∧ zln (114 + t) = 10 by decide +kernel) t h
/-- who comes to a room, but by a barred colour -/
def gCom (m : zMem) (bar f : Int) (a : Nat) : Prop := (a : Int) = f ∨ ∃ t : Nat, t < 4 ∧ (t : Int) ≠ bar ∧ zB (m (114 + t) f.toNat) a
theorem l_Bu_comersTo {f bar : Int} (hf : 0 ≤ f ∧ f < 10) (hQ : ∀ v, zI v → (∀ a : Nat, a < 32 → (zB v a ↔ gCom mem bar f a)) → Q v mem) : ∀ (n i : Nat) (v : Int), i + n = 4 → zI v → (∀ a : Nat, a < 32 → (zB v a ↔ (a : Int) = f ∨ ∃ t : Nat, t < i ∧ (t : Int) ≠ bar ∧ zB (mem (114 + t) f.toNat) a)) → zG (d + 1) M_Bu_comersTo 7 [(2, Int.ofNat 112), (0, f), (0, bar), (0, v), (0, (i : Int))] [] mem Q := by
  intro n
  induction n with
  | zero =>
    intro i v hi hv hb
    refine v_Bu_comersTo_7 ⟨fun c => hQ v hv (fun a ha => ?_), fun c => by omega⟩
    rw [hb a ha, show i = 4 by omega]
    exact Iff.rfl
  | succ n ih =>
    intro i v hi hv hb
    refine v_Bu_comersTo_7 ⟨fun c => by omega, fun c => ?_⟩
    obtain ⟨z1, -, -⟩ := zBu_rt (t := i) (by omega)
    rw [Int.toNat_natCast, z1]
    refine ⟨fun c2 => ⟨by omega, hf, fun x1 e1 x2 e2 => ?_⟩, fun c2 x3 e3 x4 e4 => ?_⟩
    · rw [za (by omega)] at e2
      rw [e1, e2]
      refine ih (i + 1) _ (by omega) (zor_I _ _) (fun a ha => ?_)
      rw [zB_or, hb a ha]
      constructor
      · rintro ((q | ⟨t, q1, q2, q3⟩) | q)
        · exact Or.inl q
        · exact Or.inr ⟨t, by omega, q2, q3⟩
        · exact Or.inr ⟨i, by omega, c2, q⟩
      · rintro (q | ⟨t, q1, q2, q3⟩)
        · exact Or.inl (Or.inl q)
        · by_cases e : t = i
          · right; rw [e] at q3; exact q3
          · exact Or.inl (Or.inr ⟨t, by omega, q2, q3⟩)
    · rw [za (by omega)] at e4
      rw [e3, e4]
      refine ih (i + 1) _ (by omega) (zor_I _ _) (fun a ha => ?_)
      rw [zB_or0, hb a ha]
      constructor
      · rintro (q | ⟨t, q1, q2, q3⟩)
        · exact Or.inl q
        · exact Or.inr ⟨t, by omega, q2, q3⟩
      · rintro (q | ⟨t, q1, q2, q3⟩)
        · exact Or.inl q
        · by_cases e : t = i
          · exact absurd (by rw [e]; exact c2) q2
          · exact Or.inr ⟨t, by omega, q2, q3⟩
theorem c_Bu_comersTo {f bar : Int} (hf : 0 ≤ f ∧ f < 10) (hQ : ∀ v, zI v → (∀ a : Nat, a < 32 → (zB v a ↔ gCom mem bar f a)) → Q v mem) : zC (d + 1) K_Bu_comersTo [(2, Int.ofNat 112), (0, f), (0, bar)] mem Q := by
  refine v_Bu_comersTo fun x1 e1 => ?_
  refine l_Bu_comersTo hf hQ 4 0 x1 (by omega) (e1 ▸ zshl_I _ _) (fun a ha => ?_)
  rw [e1, zB_shl hf.1 (by omega)]
  exact ⟨Or.inl, fun q => q.elim id (fun ⟨t, q, _⟩ => absurd q (Nat.not_lt_zero _))⟩
def gBarC (g : zPg) (k : Nat) : Int := if gL g = 2 then gC g k else -4
theorem zor_z {x : Int} (h : zI x) : zor x 0 = x := zB_ext (zor_I _ _) h (fun j _ => zB_or0 x j)
theorem c_Bu_enterBy (hD : gDo g) (hH : Hs mem 2 g rm) {a f to : Int} (ha : 0 ≤ a ∧ a < gN g) (hf : 0 ≤ f ∧ f < 10) (ht : 0 ≤ to ∧ to < 10)
    (hQ0 : (∀ x : Nat, x < 32 → gCom mem (gBarC g a.toNat) f x → zB (mem (114 + (gC g a.toNat).toNat) to.toNat) x) → Q 0 mem)
    (hQ1 : ∀ m' : zMem, (∀ k j, ¬ (k = 114 + (gC g a.toNat).toNat ∧ j = to.toNat) → m' k j = mem k j) → (∀ x : Nat, x < 32 → (zB (m' (114 + (gC g a.toNat).toNat) to.toNat) x ↔ zB (mem (114 + (gC g a.toNat).toNat) to.toNat) x ∨ gCom mem (gBarC g a.toNat) f x)) → (∃ x : Nat, x < 32 ∧ gCom mem (gBarC g a.toNat) f x ∧ ¬ zB (mem (114 + (gC g a.toNat).toNat) to.toNat) x) → Q 1 m') : zC (d + 2) K_Bu_enterBy [(2, Int.ofNat 112), (2, Int.ofNat 2), (0, a), (0, f), (0, to)] mem Q := by
  refine zC.rg fun _ hrg => ?_
  have hN := hD.1
  obtain ⟨-, -, x3⟩ := hH.2.2.2.2.1 a.toNat (by omega)
  obtain ⟨-, -, -, dc, -⟩ := hD.2.2 a.toNat (by omega)
  have e21 : mem 2 1 = gL g := hH.2.1
  have x3 : mem 5 a.toNat = gC g a.toNat := x3
  obtain ⟨z1, z2, -⟩ := zBu_rt (t := (gC g a.toNat).toNat) (by omega)
  refine v_Bu_enterBy ⟨by omega, fun x1 e1 => ?_⟩
  rw [x3] at e1
  rw [e21]
  have hold : zI (mem (114 + (gC g a.toNat).toNat) to.toNat) := zrg_i hrg (by rw [z2]; decide) _
  have key : ∀ v, zI v → (∀ x : Nat, x < 32 → (zB v x ↔ gCom mem (gBarC g a.toNat) f x)) → ((0 ≤ x1 ∧ x1 < 4) ∧ ((0 ≤ to ∧ to < 10) ∧ ∀ x3 : Int, x3 = zand v (zxor (mem (zrt 113 x1.toNat) to.toNat) (-1)) → ((0 ≤ x1 ∧ x1 < 4) ∧ ((0 ≤ to ∧ to < 10) ∧ ((0 ≤ to ∧ to < 10) ∧ ∀ m2 : zMem, m2 = zup mem (zrt 113 x1.toNat) to.toNat (zor (mem (zrt 113 x1.toNat) to.toNat) x3) → ((x3 = 0 → Q 0 m2) ∧ (x3 ≠ 0 → Q 1 m2))))))) := by
    intro v hv hb
    rw [e1, z1]
    refine ⟨dc, ht, fun y ey => ⟨dc, ht, ht, fun m2 f2 => ?_⟩⟩
    have hyb : ∀ x : Nat, x < 32 → (zB y x ↔ gCom mem (gBarC g a.toNat) f x ∧ ¬ zB (mem (114 + (gC g a.toNat).toNat) to.toNat) x) := fun x hx => by
      rw [ey, zB_and, zB_not _ hx, hb x hx]
    have hy : zI y := by rw [ey]; exact zand_I _ _
    refine ⟨fun c => ?_, fun c => ?_⟩
    · have : m2 = mem := by
        rw [f2, c, zor_z hold]
        funext k j
        rw [zup_at]
        by_cases q : k = 114 + (gC g a.toNat).toNat ∧ j = to.toNat
        · rw [if_pos q, q.1, q.2]
        · rw [if_neg q]
      rw [this]
      refine hQ0 (fun x hx hcx => Classical.byContradiction fun q => ?_)
      rw [zB_z hy] at c
      exact c x hx ((hyb x hx).mpr ⟨hcx, q⟩)
    · refine hQ1 m2 (fun k j q => by rw [f2, zup_at, if_neg q]) (fun x hx => ?_) ?_
      · rw [f2, zup_e, zB_or, hyb x hx]
        constructor
        · rintro (q | q)
          · exact Or.inl q
          · exact Or.inr q.1
        · rintro (q | q)
          · exact Or.inl q
          · by_cases z : zB (mem (114 + (gC g a.toNat).toNat) to.toNat) x
            · exact Or.inl z
            · exact Or.inr ⟨q, z⟩
      · refine Classical.byContradiction fun q => c ?_
        rw [zB_z hy]
        intro x hx z
        exact q ⟨x, hx, (hyb x hx).mp z⟩
  refine ⟨fun c => c_Bu_comersTo (d := d) hf (fun v hv hb => key v hv ?_), fun c => ?_⟩
  · have : gBarC g a.toNat = -4 := by unfold gBarC; rw [if_neg c]
    rw [this]
    exact hb
  · rw [e1]
    refine c_Bu_comersTo (d := d) hf (fun v hv hb => ?_)
    have h := key v hv (by
      have : gBarC g a.toNat = gC g a.toNat := by unfold gBarC; rw [if_pos c]
      rw [this]
      exact hb)
    rw [e1] at h
    exact h
/-- all that is entered is so -/
def eSnd (g : zPg) (rm : Int) (m : zMem) : Prop := ∀ t r a : Nat, t < 4 → r < 10 → a < 32 → zB (m (114 + t) r) a → (a : Int) < rm ∧ gEn g t r a
/-- a door adds nothing more -/
def eCl (g : zPg) (m : zMem) (k : Nat) : Prop := gX g k = 0 → (∀ x : Nat, x < 32 → gCom m (gBarC g k) (gA g k) x → zB (m (114 + (gC g k).toNat) (gB g k).toNat) x) ∧ (∀ x : Nat, x < 32 → gCom m (gBarC g k) (gB g k) x → zB (m (114 + (gC g k).toNat) (gA g k).toNat) x)
noncomputable def eCnt (m : zMem) : Int := zsum (fun t => zsum (fun r => zct (fun a => zB (m (114 + t) r) a) 10) 10) 4
theorem eCnt_b (m : zMem) : 0 ≤ eCnt m ∧ eCnt m ≤ 400 := by
  have := zsum_b (f := fun t => zsum (fun r => zct (fun a => zB (m (114 + t) r) a) 10) 10) (c := 100) 4 (fun t _ => by
    have := zsum_b (f := fun r => zct (fun a => zB (m (114 + t) r) a) 10) (c := 10) 10 (fun r _ => zct_b _ 10)
    exact ⟨this.1, by omega⟩)
  unfold eCnt
  omega
theorem eCnt_lt {c0 r0 x0 : Nat} (hc : c0 < 4) (hr : r0 < 10) (hx : x0 < 10) (hle : ∀ t r a, t < 4 → r < 10 → a < 10 → zB (m (114 + t) r) a → zB (m' (114 + t) r) a) (h1 : ¬ zB (m (114 + c0) r0) x0) (h2 : zB (m' (114 + c0) r0) x0) : eCnt m + 1 ≤ eCnt m' :=
  zsum_lt (k0 := c0) 4 (fun t ht => zsum_le 10 (fun r hr => zct_le 10 (fun a ha => hle t r a ht hr ha))) hc (zsum_lt (k0 := r0) 10 (fun r hr => zct_le 10 (fun a ha => hle c0 r a hc hr ha)) hr (zct_lt (k0 := x0) 10 (fun a ha => hle c0 r0 a hc hr ha) hx h1 h2))
theorem eSnd_step (hD : gDo g) (hrr : ∀ k : Nat, (k : Int) < gN g → gA g k < rm ∧ gB g k < rm) (hrm : rm ≤ 10) {k : Nat} {f : Int} (ho : gO g f k) (hs : eSnd g rm m) (h1 : ∀ c j, ¬ (c = 114 + (gC g k).toNat ∧ j = (gBy g k f).toNat) → m' c j = m c j) (h2 : ∀ x : Nat, x < 32 → (zB (m' (114 + (gC g k).toNat) (gBy g k f).toNat) x ↔ zB (m (114 + (gC g k).toNat) (gBy g k f).toNat) x ∨ gCom m (gBarC g k) f x)) : eSnd g rm m' ∧ ((∃ x : Nat, x < 32 ∧ gCom m (gBarC g k) f x ∧ ¬ zB (m (114 + (gC g k).toNat) (gBy g k f).toNat) x) → eCnt m + 1 ≤ eCnt m') ∧ eCnt m ≤ eCnt m' := by
  obtain ⟨da, db, -, dc, -⟩ := hD.2.2 k ho.1
  obtain ⟨ra, rb⟩ := hrr k ho.1
  have hby : 0 ≤ gBy g k f ∧ gBy g k f < 10 := by unfold gBy; split <;> omega
  have hf : 0 ≤ f ∧ f < rm := by rcases ho.2.2 with z | z <;> omega
  have com : ∀ x : Nat, x < 32 → gCom m (gBarC g k) f x → (x : Int) < rm ∧ gEn g (gC g k).toNat (gBy g k f) x := by
    intro x hx hc
    rcases hc with e | ⟨t, t1, t2, t3⟩
    · exact ⟨by omega, gEn_rule hD (by omega) ho (Or.inl e) (by omega)⟩
    · obtain ⟨y1, y2⟩ := hs t f.toNat x t1 (by omega) hx t3
      rw [Int.toNat_of_nonneg hf.1] at y2
      refine ⟨y1, gEn_rule hD (by omega) ho (Or.inr ⟨t, fun hL => ?_, y2⟩) (by omega)⟩
      unfold gBarC at t2
      rw [if_pos hL] at t2
      exact t2
  have mono : ∀ t r a, t < 4 → r < 10 → a < 10 → zB (m (114 + t) r) a → zB (m' (114 + t) r) a := by
    intro t r a ht hr ha z
    by_cases q : 114 + t = 114 + (gC g k).toNat ∧ r = (gBy g k f).toNat
    · rw [q.1, q.2] at z ⊢
      exact (h2 a (by omega)).mpr (Or.inl z)
    · rw [h1 _ _ q]; exact z
  refine ⟨fun t r a ht hr ha z => ?_, fun ⟨x, x1, x2, x3⟩ => ?_, ?_⟩
  · by_cases q : 114 + t = 114 + (gC g k).toNat ∧ r = (gBy g k f).toNat
    · rw [q.1, q.2] at z
      rcases (h2 a ha).mp z with y | y
      · rw [← q.1, ← q.2] at y
        exact hs t r a ht hr ha y
      · have := com a ha y
        rw [show (r : Int) = gBy g k f by omega, show t = (gC g k).toNat by omega]
        exact this
    · rw [h1 _ _ q] at z
      exact hs t r a ht hr ha z
  · have := (com x x1 x2).1
    exact eCnt_lt (c0 := (gC g k).toNat) (r0 := (gBy g k f).toNat) (x0 := x) (by omega) (by omega) (by omega) mono x3 ((h2 x x1).mpr (Or.inr x2))
  · exact zsum_le 4 (fun t ht => zsum_le 10 (fun r hr => zct_le 10 (fun a ha => mono t r a ht hr ha)))
theorem eCl_end (hD : gDo g) (hrr : ∀ k : Nat, (k : Int) < gN g → gA g k < rm ∧ gB g k < rm) (hrm : rm ≤ 10) (hs : eSnd g rm m) (hc : ∀ k : Nat, (k : Int) < gN g → eCl g m k) {a r : Nat} (ha : a < 32) (hr : (r : Int) < rm) : gCom m (-4) r a ↔ ((a : Int) < rm ∧ rch g a r) := by
  have com : gCom m (-4) r a ↔ a = r ∨ ∃ t, t < 4 ∧ zB (m (114 + t) r) a := by
    unfold gCom
    rw [Int.toNat_natCast]
    constructor
    · rintro (q | ⟨t, q1, -, q3⟩)
      · left; omega
      · exact Or.inr ⟨t, q1, q3⟩
    · rintro (q | ⟨t, q1, q3⟩)
      · left; omega
      · exact Or.inr ⟨t, q1, by omega, q3⟩
  rw [com]
  have key : ∀ ha2 : (a : Int) < rm, (a = r ∨ ∃ t, t < 4 ∧ zB (m (114 + t) r) a) ↔ rch g a r := fun ha2 => by
    refine gEn_end (E := fun t r a => zB (m (114 + t) r) a) hD hrr hrm (fun t r a ht hr hz => hs t r a ht hr (zB_lt hz) hz) (fun k f ho a ha3 h => ?_) ha2 hr
    obtain ⟨c1, c2⟩ := hc k ho.1 ho.2.1
    have hcom : gCom m (gBarC g k) f a := by
      rcases h with e | ⟨t, t1, t2, t3⟩
      · left; omega
      · right
        refine ⟨t, t1, ?_, by rw [Int.toNat_natCast]; exact t3⟩
        unfold gBarC
        split
        · rename_i q; exact t2 q
        · omega
    show zB (m (114 + (gC g k).toNat) (gBy g k f).toNat) a
    unfold gBy
    by_cases q : gA g k = f
    · rw [if_pos q]
      exact c1 a (by omega) (by rw [q]; exact hcom)
    · rw [if_neg q]
      exact c2 a (by omega) (by rw [ho.2.2.resolve_left q]; exact hcom)
  constructor
  · intro h
    have ha2 : (a : Int) < rm := by
      rcases h with e | ⟨t, t1, t2⟩
      · omega
      · exact (hs t r a t1 (by omega) ha t2).1
    exact ⟨ha2, (key ha2).mp h⟩
  · rintro ⟨ha2, h⟩
    exact (key ha2).mpr h
theorem c_Bu_spreadNew (hD : gDo g) (hH : Hs mem 2 g rm) (hrr : ∀ k : Nat, (k : Int) < gN g → gA g k < rm ∧ gB g k < rm) (hrm : rm ≤ 10) (hQ : ∀ m' : zMem, eSnd g rm m' → (∀ k : Nat, (k : Int) < gN g → eCl g m' k) → (∀ c, c < 114 ∨ 117 < c → m' c = mem c) → Q 0 m') : zC (d + 3) K_Bu_spreadNew [(2, Int.ofNat 112), (2, Int.ofNat 2)] mem Q := by
  have hN := hD.1
  have hn := hH.2.2.1
  -- the turns
  have turns : ∀ (n i : Nat) (m : zMem) (gr : Int), i + n = 402 → eSnd g rm m → (∀ c, c < 114 ∨ 117 < c → m c = mem c) → ((gr = 1 ∧ (i : Int) ≤ eCnt m) ∨ (gr = 0 ∧ ∀ k : Nat, (k : Int) < gN g → eCl g m k)) → zG (d + 3) M_Bu_spreadNew 27 [(2, Int.ofNat 112), (2, Int.ofNat 2), (0, gr), (0, (i : Int)), (9, 0)] [] m Q := by
    intro n
    induction n with
    | zero =>
      intro i m gr hi hs hf hg
      have hb := eCnt_b m
      refine v_Bu_spreadNew_27 ⟨fun c => ?_, fun c => by omega⟩
      rcases hg with ⟨-, q⟩ | ⟨-, q⟩
      · omega
      · exact hQ m hs q hf
    | succ n ih =>
      intro i m gr hi hs hf hg
      have hb := eCnt_b m
      refine v_Bu_spreadNew_27 ⟨fun c => ?_, fun c => ⟨fun c2 => ?_, fun c2 => ?_⟩⟩
      · rcases hg with ⟨-, q⟩ | ⟨-, q⟩
        · omega
        · exact hQ m hs q hf
      · rcases hg with ⟨q, -⟩ | ⟨-, q⟩
        · omega
        · exact hQ m hs q hf
      · have hcnt : (i : Int) ≤ eCnt m := by
          rcases hg with ⟨-, q⟩ | ⟨q, -⟩
          · exact q
          · exact absurd q c2
        -- the doors
        have doors : ∀ (n2 k : Nat) (m1 : zMem) (l : Int), k + n2 = (gN g).toNat → eSnd g rm m1 → (∀ c, c < 114 ∨ 117 < c → m1 c = mem c) → ((l = 1 ∧ eCnt m + 1 ≤ eCnt m1) ∨ (l = 0 ∧ m1 = m ∧ ∀ j, j < k → eCl g m j)) → zG (d + 3) M_Bu_spreadNew 43 [(2, Int.ofNat 112), (2, Int.ofNat 2), (0, l), (0, (i : Int)), (0, (k : Int))] [] m1 Q := by
          intro n2
          induction n2 with
          | zero =>
            intro k m1 l hk hs1 hf1 hl
            have e22 : m1 2 2 = gN g := by rw [hf1 2 (by omega)]; exact hn
            refine v_Bu_spreadNew_43 ⟨fun c3 x1 e1 => ?_, fun c3 => by omega⟩
            rw [za (by omega)] at e1
            rw [e1]
            refine ih (i + 1) m1 l (by omega) hs1 hf1 ?_
            rcases hl with ⟨l1, l2⟩ | ⟨l1, l2, l3⟩
            · exact Or.inl ⟨l1, by omega⟩
            · right
              refine ⟨l1, fun j hj => ?_⟩
              rw [l2]
              exact l3 j (by omega)
          | succ n2 ih2 =>
            intro k m1 l hk hs1 hf1 hl
            have e22 : m1 2 2 = gN g := by rw [hf1 2 (by omega)]; exact hn
            have hH1 : Hs m1 2 g rm := hH.fr (fun c c1 c2 => hf1 c (by omega))
            have hkN : (k : Int) < gN g := by omega
            obtain ⟨da, db, dab, dc, dx⟩ := hD.2.2 k hkN
            obtain ⟨xa, xb, -⟩ := hH1.2.2.2.2.1 k hkN
            have xa : m1 3 k = gA g k := xa
            have xb : m1 4 k = gB g k := xb
            refine v_Bu_spreadNew_43 ⟨fun c3 => by omega, fun c3 => c_Ho_isWalled (d := d + 1) (Or.inl rfl) hH1 hN.2 (k := (k : Int)) (by omega) (fun hw => ⟨fun _ x3 e3 => ?_, fun q => absurd q (by decide)⟩) (fun hw => ⟨fun q => absurd rfl q, fun _ => ⟨by omega, by omega, ?_⟩⟩)⟩
            · rw [Int.toNat_natCast] at hw
              rw [za (by omega)] at e3
              rw [e3]
              refine ih2 (k + 1) m1 l (by omega) hs1 hf1 ?_
              rcases hl with q | ⟨l1, l2, l3⟩
              · exact Or.inl q
              · refine Or.inr ⟨l1, l2, fun j hj => ?_⟩
                by_cases e : j = k
                · rw [e]
                  intro z
                  omega
                · exact l3 j (by omega)
            · rw [Int.toNat_natCast] at hw ⊢
              rw [xa, xb]
              have hx0 : gX g k = 0 := by omega
              have oA : gO g (gA g k) k := ⟨hkN, hx0, Or.inl rfl⟩
              have oB : gO g (gB g k) k := ⟨hkN, hx0, Or.inr rfl⟩
              have bA : gBy g k (gA g k) = gB g k := by unfold gBy; rw [if_pos rfl]
              have bB : gBy g k (gB g k) = gA g k := by unfold gBy; rw [if_neg dab]
              -- behind the first one
              have second : ∀ (m2 : zMem) (x5 : Int), eSnd g rm m2 → (∀ c, c < 114 ∨ 117 < c → m2 c = mem c) → ((x5 = 1 ∧ eCnt m + 1 ≤ eCnt m2) ∨ (x5 = 0 ∧ m2 = m ∧ (∀ j, j < k → eCl g m j) ∧ ∀ x : Nat, x < 32 → gCom m (gBarC g k) (gA g k) x → zB (m (114 + (gC g k).toNat) (gB g k).toNat) x)) → ((0 ≤ (k : Int) ∧ (k : Int) < 14) ∧ ((0 ≤ (k : Int) ∧ (k : Int) < 14) ∧ zC (d + 2) K_Bu_enterBy [(2, Int.ofNat 112), (2, Int.ofNat 2), (0, (k : Int)), (0, m2 4 k), (0, m2 3 k)] m2 (fun r6 m3 => ∀ x7 : Int, x7 = zor x5 r6 → ∀ x8 : Int, x8 = zadd (k : Int) 1 → zG (d + 3) M_Bu_spreadNew 43 [(2, Int.ofNat 112), (2, Int.ofNat 2), (0, x7), (0, (i : Int)), (0, x8)] [] m3 Q))) := by
                intro m2 x5 hs2 hf2 hx5
                have hH2 : Hs m2 2 g rm := hH.fr (fun c c1 c2 => hf2 c (by omega))
                obtain ⟨ya, yb, -⟩ := hH2.2.2.2.2.1 k hkN
                have ya : m2 3 k = gA g k := ya
                have yb : m2 4 k = gB g k := yb
                rw [ya, yb]
                have nx : ∀ (m3 : zMem) (x7 : Int), eSnd g rm m3 → (∀ c, c < 114 ∨ 117 < c → m3 c = mem c) → ((x7 = 1 ∧ eCnt m + 1 ≤ eCnt m3) ∨ (x7 = 0 ∧ m3 = m ∧ ∀ j, j < k + 1 → eCl g m j)) → ∀ x8 : Int, x8 = zadd (k : Int) 1 → zG (d + 3) M_Bu_spreadNew 43 [(2, Int.ofNat 112), (2, Int.ofNat 2), (0, x7), (0, (i : Int)), (0, x8)] [] m3 Q := by
                  intro m3 x7 h1 h2 h3 x8 e8
                  rw [za (by omega)] at e8
                  rw [e8]
                  exact ih2 (k + 1) m3 x7 (by omega) h1 h2 h3
                refine ⟨by omega, by omega, c_Bu_enterBy (d := d) hD hH2 (a := (k : Int)) (by omega) (by omega) (by omega) (fun hno x7 e7 => ?_) (fun m3 g1 g2 g3 x7 e7 => ?_)⟩
                · rw [Int.toNat_natCast] at hno
                  refine nx m2 x7 hs2 hf2 ?_
                  rcases hx5 with ⟨y1, y2⟩ | ⟨y1, y2, y3, y4⟩
                  · left
                    refine ⟨?_, y2⟩
                    rw [e7, y1]
                    decide
                  · right
                    refine ⟨?_, y2, fun j hj => ?_⟩
                    · rw [e7, y1]
                      decide
                    · by_cases e : j = k
                      · rw [e]
                        rw [y2] at hno
                        exact fun _ => ⟨y4, hno⟩
                      · exact y3 j (by omega)
                · rw [Int.toNat_natCast] at g1 g2 g3
                  obtain ⟨s1, s2, s3⟩ := eSnd_step (m := m2) (m' := m3) hD hrr hrm oB hs2 (by rw [bB]; exact g1) (by rw [bB]; exact g2)
                  rw [bB] at s2
                  refine nx m3 x7 s1 (fun c hc => ?_) (Or.inl ⟨?_, ?_⟩)
                  · funext j
                    rw [g1 c j (by omega), hf2 c hc]
                  · rcases hx5 with ⟨y1, y2⟩ | ⟨y1, y2, y3, y4⟩
                    · rw [e7, y1]; decide
                    · rw [e7, y1]; decide
                  · have := s2 g3
                    rcases hx5 with ⟨y1, y2⟩ | ⟨y1, y2, y3, y4⟩
                    · omega
                    · rw [y2] at this; exact this
              refine c_Bu_enterBy (d := d) hD hH1 (a := (k : Int)) (by omega) (by omega) (by omega) (fun hno x5 e5 => second m1 x5 hs1 hf1 ?_) (fun m2 g1 g2 g3 x5 e5 => ?_)
              · rw [Int.toNat_natCast] at hno
                rcases hl with ⟨l1, l2⟩ | ⟨l1, l2, l3⟩
                · left
                  refine ⟨?_, l2⟩
                  rw [e5, l1]
                  decide
                · right
                  rw [l2] at hno
                  refine ⟨?_, l2, l3, hno⟩
                  rw [e5, l1]
                  decide
              · rw [Int.toNat_natCast] at g1 g2 g3
                obtain ⟨s1, s2, s3⟩ := eSnd_step (m := m1) (m' := m2) hD hrr hrm oA hs1 (by rw [bA]; exact g1) (by rw [bA]; exact g2)
                rw [bA] at s2
                refine second m2 x5 s1 (fun c hc => ?_) (Or.inl ⟨?_, ?_⟩)
                · funext j
                  rw [g1 c j (by omega), hf1 c hc]
                · rcases hl with ⟨l1, l2⟩ | ⟨l1, l2, l3⟩
                  · rw [e5, l1]; decide
                  · rw [e5, l1]; decide
                · have := s2 g3
                  rcases hl with ⟨l1, l2⟩ | ⟨l1, l2, l3⟩
                  · omega
                  · rw [l2] at this; exact this
        exact doors (gN g).toNat 0 m 0 (by omega) hs hf (Or.inr ⟨rfl, rfl, fun j hj => by omega⟩)
  -- the rows are cleared
  have clear : ∀ (n i : Nat) (m : zMem), i + n = 4 → (∀ t, t < i → ∀ r, r < 10 → m (114 + t) r = 0) → (∀ c, c < 114 ∨ 117 < c → m c = mem c) → zG (d + 3) M_Bu_spreadNew 2 [(2, Int.ofNat 112), (2, Int.ofNat 2), (0, (i : Int)), (9, 0), (9, 0)] [] m Q := by
    intro n
    induction n with
    | zero =>
      intro i m hi h0 hf
      refine v_Bu_spreadNew_2 ⟨fun _ => ?_, fun c => by omega⟩
      refine turns 402 0 m 1 (by omega) (fun t r a ht hr ha z => ?_) hf (Or.inl ⟨rfl, (eCnt_b m).1⟩)
      rw [h0 t (by omega) r hr] at z
      exact absurd z (zB_0 a)
    | succ n ih =>
      intro i m hi h0 hf
      refine v_Bu_spreadNew_2 ⟨fun c => by omega, fun c => ⟨by omega, ?_⟩⟩
      obtain ⟨z1, z2, z3⟩ := zBu_rt (t := i) (by omega)
      rw [Int.toNat_natCast, z1]
      refine c_Jd_fill (d := d + 1) z2 (fun x2 e2 => ?_)
      rw [za (by omega)] at e2
      rw [e2, z3]
      refine ih (i + 1) _ (by omega) (fun t ht r hr => ?_) (fun c hc => by rw [zfl_k (by omega), hf c hc])
      by_cases e : t = i
      · rw [e, zfl_e hr]
      · rw [zfl_k (by omega)]
        exact h0 t (by omega) r hr
  exact v_Bu_spreadNew (clear 4 0 mem (by omega) (fun t ht => by omega) (fun _ _ => rfl))
end
