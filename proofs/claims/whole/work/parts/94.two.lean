section
/-! The class Two: spots. -/
variable {d w u : Nat} {mem m m' m2 : zMem} {Q : Int → zMem → Prop} {g : zPg} {rm rp rq : Int} {V V' : Nat → Prop} {rmo : Nat → Int} {nx : Nat → Nat → Prop}
def wFr (mem m' : zMem) : Prop := (∀ c, c < 90 ∨ (90 < c ∧ c < 94) ∨ 111 < c → m' c = mem c) ∧ ∀ j, j ≠ 8 → m' 90 j = mem 90 j
theorem wFr.refl : wFr mem mem := ⟨fun _ _ => rfl, fun _ _ => rfl⟩
theorem wFr.trans (h : wFr mem m') (h' : wFr m' m2) : wFr mem m2 := ⟨fun k k1 => by rw [h'.1 k k1, h.1 k k1], fun j hj => by rw [h'.2 j hj, h.2 j hj]⟩
def wPi (m : zMem) (V : Nat → Prop) (rmo : Nat → Int) (nx : Nat → Nat → Prop) : Prop := (∀ s, V s → s < 30 ∧ m 91 s = rmo s ∧ (0 ≤ rmo s ∧ rmo s < 10) ∧ ∀ t, t < 32 → (zB (m 92 s) t ↔ nx s t)) ∧ ∀ r, r < 10 → ∀ t, t < 32 → (zB (m 93 r) t ↔ V t ∧ rmo t = r)
theorem wPi.fr (h : wPi m V rmo nx) (h1 : m' 91 = m 91) (h2 : m' 92 = m 92) (h3 : m' 93 = m 93) : wPi m' V rmo nx := by
  unfold wPi at h ⊢
  rw [h1, h2, h3]
  exact h
theorem wPi.wf (h : wPi m V rmo nx) (hf : wFr m m') : wPi m' V rmo nx := h.fr (hf.1 91 (by omega)) (hf.1 92 (by omega)) (hf.1 93 (by omega))
def sb (g : zPg) (k : Nat) (r : Int) : Nat := if gA g k = r then 2 * k + 1 else 2 * k
def nxs (g : zPg) (r last : Int) (spot t : Nat) : Prop := (∃ k : Nat, gMay g r last (-1) k ∧ t = sb g k r) ∨ ((∀ k : Nat, ¬ gMay g r last (-1) k) ∧ t = spot)
theorem sb_lt {k : Nat} {r : Int} (hk : k < 14) : sb g k r < 28 := by unfold sb; split <;> omega
theorem c_Tw_addSpot (hH : Hs mem 2 g rm) (hD : gDo g) {s : Nat} {r last : Int} (hs : s < 30) (hV : ¬ V s) (hr : 0 ≤ r ∧ r < 10) (hl : last = -1 ∨ (0 ≤ last ∧ last < gN g)) (er : rmo s = r) (en : ∀ t, t < 32 → (nx s t ↔ nxs g r last s t)) (hp : wPi mem V rmo nx) (hQ : ∀ m' : zMem, wPi m' (fun t => V t ∨ t = s) rmo nx → (∀ c, c < 91 ∨ 93 < c → m' c = mem c) → Q 0 m') : zC (d + 2) K_Tw_addSpot [(2, Int.ofNat 90), (2, Int.ofNat 2), (0, (s : Int)), (0, r), (0, last)] mem Q := by
  obtain ⟨p1, p2⟩ := hp
  have hN := hD.1
  have hsi : (s : Int).toNat = s := Int.toNat_natCast s
  refine v_Tw_addSpot ⟨by omega, fun m1 e1 => ⟨hr, hr, fun m2 e2 => ?_⟩⟩
  rw [hsi] at e1
  have g1 : m1 93 r.toNat = mem 93 r.toNat := by rw [e1, zup_k (by omega)]
  rw [g1] at e2
  have hH2 : Hs m2 2 g rm := hH.fr (fun k k1 k2 => by funext j; rw [e2, zup_k (by omega), e1, zup_k (by omega)])
  have fin : ∀ (v : Int) (m3 : zMem), (∀ t, t < 32 → (zB v t ↔ nxs g r last s t)) → m3 = zup m2 92 s v → Q 0 m3 := by
    intro v m3 hv e3
    refine hQ m3 ⟨?_, fun r' hr' t ht => ?_⟩ (fun c hc => by funext j; rw [e3, zup_k (by omega), e2, zup_k (by omega), e1, zup_k (by omega)])
    · intro t ht
      by_cases e : t = s
      · rw [e]
        refine ⟨hs, ?_, by rw [er]; exact hr, fun t' ht' => ?_⟩
        · rw [e3, zup_k (by omega), e2, zup_k (by omega), e1, zup_e, er]
        · rw [e3, zup_e, hv t' ht', en t' ht']
      · obtain ⟨b1, b2, b3, b4⟩ := p1 t (ht.resolve_right e)
        refine ⟨b1, ?_, b3, fun t' ht' => ?_⟩
        · rw [e3, zup_k (by omega), e2, zup_k (by omega), e1, zup_j e, b2]
        · rw [e3, zup_j e, e2, zup_k (by omega), e1, zup_k (by omega), b4 t' ht']
    · rw [e3, zup_k (by omega), e2, zup_at]
      by_cases e : r' = r.toNat
      · rw [if_pos ⟨rfl, e⟩, (zB_put ht (by omega) (by omega)).1, p2 r.toNat (by omega) t ht, e]
        constructor
        · rintro (⟨q1, q2⟩ | q)
          · exact ⟨Or.inl q1, q2⟩
          · have : t = s := by omega
            exact ⟨Or.inr this, by rw [this, er]; omega⟩
        · rintro ⟨q1 | q1, q2⟩
          · exact Or.inl ⟨q1, q2⟩
          · right; omega
      · rw [if_neg (fun q => e q.2), e1, zup_k (by omega), p2 r' hr' t ht]
        constructor
        · rintro ⟨q1, q2⟩; exact ⟨Or.inl q1, q2⟩
        · rintro ⟨q1 | q1, q2⟩
          · exact ⟨q1, q2⟩
          · rw [q1, er] at q2; exact absurd (by omega) e
  refine c_Ho_choices (d := d) (Or.inl rfl) hH2 hD hr hl (Or.inl rfl) (fun v hvz hv => ?_)
  have hN2 : m2 2 2 = gN g := hH2.2.2.1
  have loop : ∀ (n i : Nat) (l6 : Int), (i : Int) + n = gN g → zI l6 → (∀ t, t < 32 → (zB l6 t ↔ ∃ k : Nat, k < i ∧ gMay g r last (-1) k ∧ t = sb g k r)) → zG (d + 2) M_Tw_addSpot 35 [(2, Int.ofNat 90), (2, Int.ofNat 2), (0, (s : Int)), (0, r), (9, 0), (0, v), (0, l6), (0, (i : Int))] [] m2 Q := by
    intro n
    induction n with
    | zero =>
      intro i l6 hi hz hb
      refine v_Tw_addSpot_35 ?_
      rw [hN2, hsi]
      refine ⟨fun c => ⟨fun c1 => ⟨by omega, fun m3 e3 => fin l6 m3 (fun t ht => ?_) e3⟩, fun c1 => ⟨by omega, fun m3 e3 => fin _ m3 (fun t ht => ?_) e3⟩⟩, fun c => by omega⟩
      · rw [hb t ht]
        constructor
        · rintro ⟨k, -, k2⟩; exact Or.inl ⟨k, k2⟩
        · rintro (⟨k, k2, k3⟩ | ⟨q, -⟩)
          · exact ⟨k, by have := k2.1.1; omega, k2, k3⟩
          · exfalso
            refine c1 ((zB_z hz).mpr (fun t' ht' q' => ?_))
            obtain ⟨k, -, k2, -⟩ := (hb t' ht').mp q'
            exact q k k2
      · have hno : ∀ k : Nat, ¬ gMay g r last (-1) k := by
          intro k k2
          have hk : (k : Int) < gN g := k2.1.1
          have hlt := sb_lt (g := g) (k := k) (r := r) (by omega)
          exact (zB_z hz).mp c1 (sb g k r) (by omega) ((hb _ (by omega)).mpr ⟨k, by omega, k2, rfl⟩)
        rw [zB_shl (by omega) (by omega)]
        constructor
        · intro q; exact Or.inr ⟨hno, by omega⟩
        · rintro (⟨k, k2, k3⟩ | ⟨-, q⟩)
          · exact absurd k2 (hno k)
          · omega
    | succ n ih =>
      intro i l6 hi hz hb
      refine v_Tw_addSpot_35 ?_
      rw [hN2]
      refine ⟨fun c => by omega, fun c => ⟨fun c1 x2 e2' => ?_, fun c1 => ?_⟩⟩
      · rw [zB_test hvz (by omega) (by omega), Int.toNat_natCast, hv i (by omega)] at c1
        rw [za (by omega)] at e2'
        rw [e2']
        refine ih (i + 1) l6 (by omega) hz (fun t ht => ?_)
        rw [hb t ht]
        constructor
        · rintro ⟨k, k1, k2⟩; exact ⟨k, by omega, k2⟩
        · rintro ⟨k, k1, k2, k3⟩
          by_cases e : k = i
          · rw [e] at k2; exact absurd k2 c1
          · exact ⟨k, by omega, k2, k3⟩
      · rw [zB_ne hvz (by omega) (by omega), Int.toNat_natCast, hv i (by omega)] at c1
        refine c_Ho_sideBeyond (d := d) (Or.inl rfl) hH2 (by omega) (by omega) (fun x4 e4 x5 e5 => ?_)
        rw [Int.toNat_natCast] at e4
        have hsb : (if gA g i = r then 2 * (i : Int) + 1 else 2 * (i : Int)) = ((sb g i r : Nat) : Int) := by unfold sb; split <;> omega
        have hlt := sb_lt (g := g) (k := i) (r := r) (by omega)
        rw [za (by omega)] at e5
        rw [hsb] at e4
        rw [e4, e5]
        refine ih (i + 1) _ (by omega) (zor_I _ _) (fun t ht => ?_)
        rw [(zB_put ht (by omega) (by omega)).1, hb t ht]
        constructor
        · rintro (⟨k, k1, k2⟩ | q)
          · exact ⟨k, by omega, k2⟩
          · exact ⟨i, by omega, c1, by omega⟩
        · rintro ⟨k, k1, k2, k3⟩
          by_cases e : k = i
          · right; rw [e] at k3; omega
          · exact Or.inl ⟨k, by omega, k2, k3⟩
  exact loop (gN g).toNat 0 0 (by omega) zI_0 (fun t ht => ⟨fun q => absurd q (zB_0 t), fun ⟨k, k1, _⟩ => by omega⟩)
def rmoS (g : zPg) (rp rq : Int) (s : Nat) : Int := if s < 28 then (if s % 2 = 0 then gA g (s / 2) else gB g (s / 2)) else if s = 28 then rp else rq
def lsS (s : Nat) : Int := if s < 28 then ((s / 2 : Nat) : Int) else -1
def nxS (g : zPg) (rp rq : Int) (s t : Nat) : Prop := nxs g (rmoS g rp rq s) (lsS s) s t
def vS (g : zPg) (s : Nat) : Prop := (s : Int) < 2 * gN g ∨ s = 28 ∨ s = 29
theorem zTw_rt {t : Nat} (h : t < 5) : zrt 94 t = 95 + t ∧ zrt 100 t = 101 + t ∧ zrt 106 t = 107 + t ∧ zkd (95 + t) = 100 ∧ zkd (101 + t) = 100 ∧ zkd (107 + t) = 100 ∧ zln (95 + t) = 30 ∧ zln (107 + t) = 30 := (show ∀ t, t < 5 → zrt 94 t = 95 + t ∧ zrt 100 t = 101 + t ∧ zrt 106 t = 107 + t ∧ zkd (95 + t) = 100 ∧ zkd (101 + t) = 100 ∧ zkd (107 + t) = 100 ∧ zln (95 + t) = 30 ∧ zln (107 + t) = 30 by decide +kernel) t h
/-- the spot where one is at first -/
def fsp (g : zPg) (r t : Int) (new : Nat) : Nat := if t = -1 then new else if gA g t.toNat = r then 2 * t.toNat else 2 * t.toNat + 1
theorem c_Tw_prepare (hw : zkd w = 9) (hu : zkd u = 9) (hw2 : w < 69 ∧ u < 69) (hH : Hs mem 2 g rm) (hD : gDo g) (hrp : mem w 0 = rp ∧ 0 ≤ rp ∧ rp < 10) (hrq : mem u 0 = rq ∧ 0 ≤ rq ∧ rq < 10) (htw : mem w 1 = -1 ∨ (0 ≤ mem w 1 ∧ mem w 1 < gN g)) (htu : mem u 1 = -1 ∨ (0 ≤ mem u 1 ∧ mem u 1 < gN g))
    (hQ : ∀ m' : zMem, wPi m' (vS g) (rmoS g rp rq) (nxS g rp rq) → m' 90 6 = (fsp g rp (mem w 1) 28 : Int) → m' 90 7 = (fsp g rq (mem u 1) 29 : Int) → (∀ l f : Nat, l < 5 → f < 30 → m' (95 + l) f = 0 ∧ m' (107 + l) f = 0) → m' 90 8 = mem 90 8 → (∀ c, c < 90 ∨ 111 < c → m' c = mem c) → Q 0 m') : zC (d + 3) K_Tw_prepare [(2, Int.ofNat 90), (2, Int.ofNat 2), (2, Int.ofNat w), (2, Int.ofNat u)] mem Q := by
  have hN := hD.1
  -- the sides
  have loop2 : ∀ (n i : Nat) (m : zMem), (i : Int) + n = 2 * gN g → wPi m (fun t => t < i) (rmoS g rp rq) (nxS g rp rq) → (∀ l f : Nat, l < 5 → f < 30 → m (95 + l) f = 0 ∧ m (107 + l) f = 0) → m 90 = mem 90 → (∀ c, c < 90 ∨ 111 < c → m c = mem c) → zG (d + 3) M_Tw_prepare 48 [(2, Int.ofNat 90), (2, Int.ofNat 2), (2, Int.ofNat w), (2, Int.ofNat u), (0, (i : Int))] [] m Q := by
    intro n
    induction n with
    | zero =>
      intro i m hi hp h0 h90 hf
      have hH' : Hs m 2 g rm := hH.fr (fun k k1 k2 => hf k (by omega))
      refine v_Tw_prepare_48 hw hu ?_
      rw [hH'.2.2.1, zm (by omega)]
      refine ⟨fun c => ?_, fun c => by omega⟩
      rw [hf w (by omega), hrp.1]
      refine c_Tw_addSpot (d := d) (V := fun t => t < i) (rmo := rmoS g rp rq) (nx := nxS g rp rq) (s := 28) hH' hD (by omega) (by omega) hrp.2 (Or.inl rfl) (by unfold rmoS; rw [if_neg (by omega), if_pos rfl]) (fun t ht => by unfold nxS lsS rmoS; rw [if_neg (by omega), if_pos rfl, if_neg (by omega)]) hp (fun m1 hp1 hf1 => ?_)
      have hH1 : Hs m1 2 g rm := hH'.fr (fun k k1 k2 => hf1 k (by omega))
      rw [hf1 u (by omega), hf u (by omega), hrq.1]
      refine c_Tw_addSpot (d := d) (V := fun t => t < i ∨ t = 28) (rmo := rmoS g rp rq) (nx := nxS g rp rq) (s := 29) hH1 hD (by omega) (by omega) hrq.2 (Or.inl rfl) (by unfold rmoS; rw [if_neg (by omega), if_neg (by omega)]) (fun t ht => by unfold nxS lsS rmoS; rw [if_neg (by omega), if_neg (by omega), if_neg (by omega)]) hp1 (fun m2 hp2 hf2 => ?_)
      have hH2 : Hs m2 2 g rm := hH1.fr (fun k k1 k2 => hf2 k (by omega))
      have ew : m2 w = mem w := by rw [hf2 w (by omega), hf1 w (by omega), hf w (by omega)]
      have eu : m2 u = mem u := by rw [hf2 u (by omega), hf1 u (by omega), hf u (by omega)]
      have hpV : wPi m2 (vS g) (rmoS g rp rq) (nxS g rp rq) := by
        have : vS g = fun t => (t < i ∨ t = 28) ∨ t = 29 := by
          funext t
          apply propext
          unfold vS
          omega
        rw [this]
        exact hp2
      have fin : ∀ (m6 : zMem), m6 90 6 = (fsp g rp (mem w 1) 28 : Int) → m6 90 7 = (fsp g rq (mem u 1) 29 : Int) → (∀ c, c ≠ 90 → m6 c = m2 c) → (∀ j, j ≠ 6 → j ≠ 7 → m6 90 j = m2 90 j) → Q 0 m6 := by
        intro m6 q6 q7 hc hj
        refine hQ m6 (hpV.fr (hc 91 (by omega)) (hc 92 (by omega)) (hc 93 (by omega))) q6 q7 (fun l f hl hf' => ?_) ?_ (fun c hc' => ?_)
        · rw [hc _ (by omega), hc _ (by omega), hf2 _ (by omega), hf2 _ (by omega), hf1 _ (by omega), hf1 _ (by omega)]
          exact h0 l f hl hf'
        · rw [hj 8 (by omega) (by omega), hf2 90 (by omega), hf1 90 (by omega), h90]
        · rw [hc c (by omega), hf2 c (by omega), hf1 c (by omega), hf c hc']
      rw [ew]
      have side : ∀ (r t : Int) (new : Nat), t ≠ -1 → 0 ≤ t → (if gA g t.toNat = r then 2 * t else 2 * t + 1) = ((fsp g r t new : Nat) : Int) := by
        intro r t new h1 h2
        unfold fsp
        rw [if_neg h1]
        split <;> omega
      have second : ∀ (m4 : zMem) (v : Int), m4 = zup m2 90 6 v → v = (fsp g rp (mem w 1) 28 : Int) → ((m4 u 1 ≠ -1 → zC (d + 2) K_Ho_sideAt [(2, Int.ofNat 2), (0, m4 u 1), (0, m4 u 0)] m4 (fun r4 m5 => ∀ m6 : zMem, m6 = zup m5 90 7 r4 → Q 0 m6)) ∧ (m4 u 1 = -1 → ∀ m7 : zMem, m7 = zup m4 90 7 29 → Q 0 m7)) := by
        intro m4 v e4 hv
        have eu4 : m4 u = mem u := by funext j; rw [e4, zup_k (by omega), eu]
        have hH4 : Hs m4 2 g rm := hH2.fr (fun k k1 k2 => by funext j; rw [e4, zup_k (by omega)])
        have last : ∀ (m6 : zMem) (v7 : Int), m6 = zup m4 90 7 v7 → v7 = (fsp g rq (mem u 1) 29 : Int) → Q 0 m6 := by
          intro m6 v7 e6 hv7
          refine fin m6 ?_ ?_ (fun c hc => ?_) (fun j j1 j2 => ?_)
          · rw [e6, zup_j (by omega), e4, zup_e, hv]
          · rw [e6, zup_e, hv7]
          · funext j; rw [e6, zup_k hc, e4, zup_k hc]
          · rw [e6, zup_j j2, e4, zup_j j1]
        rw [eu4]
        refine ⟨fun c1 => c_Ho_sideAt (d := d + 1) (Or.inl rfl) hH4 (by omega) (htu.resolve_left c1) (fun m6 e6 => last m6 _ e6 ?_), fun c1 m7 e7 => last m7 _ e7 ?_⟩
        · rw [hrq.1]
          exact side _ _ _ c1 (by omega)
        · unfold fsp; rw [if_pos c1]; rfl
      refine ⟨fun c1 => c_Ho_sideAt (d := d + 1) (Or.inl rfl) hH2 (by omega) (htw.resolve_left c1) (fun m4 e4 => second m4 _ e4 ?_), fun c1 m8 e8 => second m8 _ e8 ?_⟩
      · rw [hrp.1]
        exact side _ _ _ c1 (by omega)
      · unfold fsp; rw [if_pos c1]; rfl
    | succ n ih =>
      intro i m hi hp h0 h90 hf
      have hH' : Hs m 2 g rm := hH.fr (fun k k1 k2 => hf k (by omega))
      refine v_Tw_prepare_48 hw hu ?_
      rw [hH'.2.2.1, zm (by omega)]
      refine ⟨fun c => by omega, fun c => ?_⟩
      refine c_Ho_roomOfSide (d := d + 1) (Or.inl rfl) hH' (by omega) ⟨by omega, c⟩ ?_
      have er : (if (i : Int) % 2 = 0 then gA g ((i : Int) / 2).toNat else gB g ((i : Int) / 2).toNat) = rmoS g rp rq i := by
        unfold rmoS
        rw [if_pos (show i < 28 by omega), show ((i : Int) / 2).toNat = i / 2 by omega]
        by_cases e : i % 2 = 0
        · rw [if_pos e, if_pos (show (i : Int) % 2 = 0 by omega)]
        · rw [if_neg e, if_neg (show ¬ (i : Int) % 2 = 0 by omega)]
      have el : zshr (i : Int) 1 = lsS i := by
        rw [zshr_n (by unfold zI; omega) (by omega) (by omega)]
        unfold lsS
        rw [if_pos (by omega)]
        simp
      have hr : 0 ≤ rmoS g rp rq i ∧ rmoS g rp rq i < 10 := by
        have := hD.2.2 (i / 2) (by omega)
        unfold rmoS
        rw [if_pos (by omega)]
        split
        · exact this.1
        · exact this.2.1
      rw [er, el]
      refine c_Tw_addSpot (d := d) (V := fun t => t < i) (rmo := rmoS g rp rq) (nx := nxS g rp rq) (s := i) hH' hD (by omega) (by omega) hr (by unfold lsS; rw [if_pos (by omega)]; right; omega) rfl (fun t ht => Iff.rfl) hp (fun m1 hp1 hf1 x11 e11 => ?_)
      rw [za (by omega)] at e11
      rw [e11]
      refine ih (i + 1) m1 (by omega) ?_ (fun l f hl hf' => ?_) ?_ (fun c hc' => ?_)
      · have : (fun t => t < i + 1) = fun t => t < i ∨ t = i := by
          funext t
          apply propext
          omega
        rw [this]
        exact hp1
      · rw [hf1 _ (by omega), hf1 _ (by omega)]
        exact h0 l f hl hf'
      · rw [hf1 90 (by omega), h90]
      · rw [hf1 c (by omega), hf c hc']
  -- the rows
  have loop1 : ∀ (n i : Nat) (m : zMem), i + n = 5 → (∀ r, r < 10 → m 93 r = 0) → (∀ l f : Nat, l < i → f < 30 → m (95 + l) f = 0 ∧ m (107 + l) f = 0) → m 90 = mem 90 → (∀ c, c < 90 ∨ 111 < c → m c = mem c) → zG (d + 3) M_Tw_prepare 11 [(2, Int.ofNat 90), (2, Int.ofNat 2), (2, Int.ofNat w), (2, Int.ofNat u), (0, (i : Int))] [] m Q := by
    intro n
    induction n with
    | zero =>
      intro i m hi h93 h0 h90 hf
      refine v_Tw_prepare_11 hw hu ⟨fun c => ?_, fun c => by omega⟩
      refine loop2 (2 * gN g).toNat 0 m (by omega) ⟨fun s hs => by omega, fun r hr t ht => ?_⟩ (fun l f hl hf' => h0 l f (by omega) hf') h90 hf
      rw [h93 r hr]
      exact ⟨fun q => absurd q (zB_0 t), fun q => by omega⟩
    | succ n ih =>
      intro i m hi h93 h0 h90 hf
      obtain ⟨z1, z2, z3, z4, z5, z6, z7, z8⟩ := zTw_rt (t := i) (by omega)
      refine v_Tw_prepare_11 hw hu ⟨fun c => by omega, fun c => ⟨by omega, ?_⟩⟩
      rw [Int.toNat_natCast, z1, z3]
      refine c_Jd_fill (d := d + 1) z4 ⟨by omega, c_Jd_fill (d := d + 1) z6 (fun x3 e3 => ?_)⟩
      rw [za (by omega)] at e3
      rw [e3, z7, z8]
      refine ih (i + 1) _ (by omega) (fun r hr => ?_) (fun l f hl hf' => ?_) ?_ (fun c hc => ?_)
      · rw [zfl_k (by omega), zfl_k (by omega)]; exact h93 r hr
      · by_cases e : l = i
        · rw [e]
          exact ⟨by rw [zfl_k (by omega), zfl_e hf'], by rw [zfl_e hf']⟩
        · rw [zfl_k (by omega), zfl_k (by omega), zfl_k (by omega), zfl_k (by omega)]
          exact h0 l f (by omega) hf'
      · rw [zfl_k (by omega), zfl_k (by omega)]; exact h90
      · rw [zfl_k (by omega), zfl_k (by omega)]; exact hf c hc
  refine v_Tw_prepare hw hu (c_Jd_fill (d := d + 1) (b := 93) (by decide) ?_)
  rw [show zln 93 = 10 by decide]
  exact loop1 5 0 _ (by omega) (fun r hr => by rw [zfl_e hr]) (fun l f hl => by omega) (by rw [zfl_k (by omega)]) (fun c hc => by rw [zfl_k (by omega)])
end
