section
/-! talk and cup agree. -/
variable {d w u : Nat} {mem m m' m2 : zMem} {Q : Int → zMem → Prop} {R S : zMem → Prop} {g : zPg} {rp rq : Int}
/-- three of the class as one of the reference -/
def fW (g : zPg) (rp rq : Int) (x : Nat × Nat × Nat) : Nat := cd (pls g rp rq x.2.1) (pls g rp rq x.2.2) x.1
theorem fW_at (hD : gDo g) (hL : gL g ≠ 1) (hp : 0 ≤ rp ∧ rp < 10) (hq : 0 ≤ rq ∧ rq < 10) {x : Nat × Nat × Nat} (hx : x.1 < 6 ∧ vS g x.2.1 ∧ vS g x.2.2) : pa (fW g rp rq x) = pls g rp rq x.2.1 ∧ pb (fW g rp rq x) = pls g rp rq x.2.2 ∧ fW g rp rq x % 6 = x.1 ∧ pR g (pls g rp rq x.2.1) = rmoS g rp rq x.2.1 ∧ pR g (pls g rp rq x.2.2) = rmoS g rp rq x.2.2 := by
  obtain ⟨a1, a2, a3, a4⟩ := pls_rep hD hL hp hq hx.2.1
  obtain ⟨b1, b2, b3, b4⟩ := pls_rep hD hL hp hq hx.2.2
  obtain ⟨c1, c2, c3, c4⟩ := cd_at (g := g) (l := x.1) ⟨a1.1, a2⟩ ⟨b1.1, b2⟩ hx.1
  exact ⟨c2, c3, c4, a1.2.1, b1.2.1⟩
theorem talk_map (hD : gDo g) (hL : gL g ≠ 1) (hp : 0 ≤ rp ∧ rp < 10) (hq : 0 ≤ rq ∧ rq < 10) {fs ss k : Nat} {A B : Int} (hk : 1 ≤ k ∧ k ≤ 5) (hf : vS g fs) (hs : vS g ss) (eA : pls g rp rq fs = A) (eB : pls g rp rq ss = B) {v : Int} (h : lvA (s0W (rmoS g rp rq) fs ss) (stW (rmoS g rp rq) (nxS g rp rq) k) (fun x => x.1 = k) v) : wkA (s0T g A B) (stT g k) (fun y => y % 6 = k) v := by
  have r1 := (pls_rep hD hL hp hq hf).1.2.1
  have r2 := (pls_rep hD hL hp hq hs).1.2.1
  have start : ∀ x, s0W (rmoS g rp rq) fs ss x → fW g rp rq x = cd A B (if pR g A = pR g B then 1 else 0) := by
    intro x hx
    rw [show x = _ from hx, ← eA, ← eB, r1, r2]
    rfl
  refine wkA_map (I := fun x => x.1 ≤ k ∧ vS g x.2.1 ∧ vS g x.2.2) (f := fW g rp rq) ?_ ?_ ?_ ?_ ?_ ?_ ?_ (lvA_wk h)
  · intro x hx
    rw [show x = _ from hx]
    refine ⟨?_, hf, hs⟩
    show (if rmoS g rp rq fs = rmoS g rp rq ss then 1 else 0) ≤ k
    split <;> omega
  · rintro x y ⟨i1, i2, i3⟩ ⟨z1, z2, z3, z4⟩
    refine ⟨?_, vS_cl hD i2 z2, vS_cl hD i3 z3⟩
    rw [z4]
    split <;> omega
  · exact fun x hx => start x hx
  · intro y hy
    exact ⟨_, rfl, by rw [start _ rfl]; exact hy.symm⟩
  · rintro x y ⟨i1, i2, i3⟩ ⟨z1, z2, z3, z4⟩
    obtain ⟨e1, e2, e3, -⟩ := fW_at hD hL hp hq ⟨by omega, i2, i3⟩
    have f1 := (pls_rep hD hL hp hq (vS_cl hD i2 z2)).1.2.1
    have f2 := (pls_rep hD hL hp hq (vS_cl hD i3 z3)).1.2.1
    refine ⟨by omega, pls g rp rq y.2.1, pls g rp rq y.2.2, ?_, ?_, ?_⟩
    · rw [e1]; exact (nx_pdn hD hL hp hq i2 _).mpr ⟨_, z2, rfl⟩
    · rw [e2]; exact (nx_pdn hD hL hp hq i3 _).mpr ⟨_, z3, rfl⟩
    · unfold fW at e3 ⊢
      rw [f1, f2, e3, ← z4]
  · rintro x y' ⟨i1, i2, i3⟩ ⟨z1, ta, tb, z2, z3, z4⟩
    obtain ⟨e1, e2, e3, -⟩ := fW_at hD hL hp hq ⟨by omega, i2, i3⟩
    rw [e1] at z2
    rw [e2] at z3
    rw [e3] at z1 z4
    obtain ⟨ya, y1, y2⟩ := (nx_pdn hD hL hp hq i2 _).mp z2
    obtain ⟨yb, y3, y4⟩ := (nx_pdn hD hL hp hq i3 _).mp z3
    have f1 := (pls_rep hD hL hp hq (vS_cl hD i2 y1)).1.2.1
    have f2 := (pls_rep hD hL hp hq (vS_cl hD i3 y3)).1.2.1
    refine ⟨(if rmoS g rp rq ya = rmoS g rp rq yb then x.1 + 1 else 0, ya, yb), ⟨z1, y1, y3, rfl⟩, ?_⟩
    rw [z4, y2, y4, f1, f2]
    rfl
  · rintro x ⟨i1, i2, i3⟩
    obtain ⟨e1, e2, e3, -⟩ := fW_at hD hL hp hq ⟨by omega, i2, i3⟩
    show x.1 = k ↔ fW g rp rq x % 6 = k
    rw [e3]
theorem cup_map (hD : gDo g) (hL : gL g ≠ 1) (hp : 0 ≤ rp ∧ rp < 10) (hq : 0 ≤ rq ∧ rq < 10) {fs ss : Nat} {A B c0 : Int} (hf : vS g fs) (hs : vS g ss) (eA : pls g rp rq fs = A) (eB : pls g rp rq ss = B) {v : Int} (h : lvA (s0V (rmoS g rp rq) fs ss) (stV (rmoS g rp rq) (nxS g rp rq)) (tV' (rmoS g rp rq) c0) v) : wkA (s0C g A B) (stC g) (tC g c0) v := by
  have r1 := (pls_rep hD hL hp hq hf).1.2.1
  have r2 := (pls_rep hD hL hp hq hs).1.2.1
  refine wkA_map (I := fun x => x.1 ≤ 1 ∧ vS g x.2.1 ∧ vS g x.2.2) (f := fW g rp rq) ?_ ?_ ?_ ?_ ?_ ?_ ?_ (lvA_wk h)
  · rintro x (hx | ⟨-, hx⟩)
    · rw [hx]; exact ⟨by show 0 ≤ 1; omega, hf, hs⟩
    · rw [hx]; exact ⟨by show 1 ≤ 1; omega, hf, hs⟩
  · rintro x y ⟨i1, i2, i3⟩ ⟨z2, z3, z4⟩
    exact ⟨by omega, vS_cl hD i2 z2, vS_cl hD i3 z3⟩
  · rintro x (hx | ⟨h1, hx⟩)
    · rw [hx, ← eA, ← eB]; exact Or.inl rfl
    · rw [hx, ← eA, ← eB]; exact Or.inr ⟨by rw [r1, r2]; exact h1, rfl⟩
  · rintro y (hy | ⟨h1, hy⟩)
    · exact ⟨(0, fs, ss), Or.inl rfl, by rw [hy, ← eA, ← eB]; rfl⟩
    · rw [← eA, ← eB, r1, r2] at h1
      exact ⟨(1, fs, ss), Or.inr ⟨h1, rfl⟩, by rw [hy, ← eA, ← eB]; rfl⟩
  · rintro x y ⟨i1, i2, i3⟩ ⟨z2, z3, z4⟩
    obtain ⟨e1, e2, e3, -⟩ := fW_at hD hL hp hq ⟨by omega, i2, i3⟩
    have f1 := (pls_rep hD hL hp hq (vS_cl hD i2 z2)).1.2.1
    have f2 := (pls_rep hD hL hp hq (vS_cl hD i3 z3)).1.2.1
    refine ⟨pls g rp rq y.2.1, pls g rp rq y.2.2, y.1, ?_, ?_, ?_, rfl⟩
    · rw [e1]; exact (nx_pdn hD hL hp hq i2 _).mpr ⟨_, z2, rfl⟩
    · rw [e2]; exact (nx_pdn hD hL hp hq i3 _).mpr ⟨_, z3, rfl⟩
    · rw [e3, f1, f2]; exact z4
  · rintro x y' ⟨i1, i2, i3⟩ ⟨ta, tb, l, z2, z3, z5, z4⟩
    obtain ⟨e1, e2, e3, -⟩ := fW_at hD hL hp hq ⟨by omega, i2, i3⟩
    rw [e1] at z2
    rw [e2] at z3
    rw [e3] at z5
    obtain ⟨ya, y1, y2⟩ := (nx_pdn hD hL hp hq i2 _).mp z2
    obtain ⟨yb, y3, y4⟩ := (nx_pdn hD hL hp hq i3 _).mp z3
    have f1 := (pls_rep hD hL hp hq (vS_cl hD i2 y1)).1.2.1
    have f2 := (pls_rep hD hL hp hq (vS_cl hD i3 y3)).1.2.1
    rw [y2, y4, f1, f2] at z5
    refine ⟨(l, ya, yb), ⟨y1, y3, z5⟩, ?_⟩
    rw [z4, y2, y4]
    rfl
  · rintro x ⟨i1, i2, i3⟩
    obtain ⟨e1, e2, e3, e4, e5⟩ := fW_at hD hL hp hq ⟨by omega, i2, i3⟩
    unfold tV' tC
    rw [e3]
    by_cases e : x.1 = 0
    · rw [if_pos e, if_pos e, e1, e4]
    · rw [if_neg e, if_neg e, e2, e5]
theorem T_talk {a b c : Int} (hI : Inv mem) (hR : ∀ m', Inv m' → R m') : zC (d + 9) K_Od_talk [(2, Int.ofNat 0), (0, a), (0, b), (0, c)] mem (fun r1 m1 => zC (d + 9) K_Mo_talk [(2, Int.ofNat 122), (0, a), (0, b), (0, c)] m1 (fun r2 m2 => (r1 = r2 → R m2) ∧ (r1 ≠ r2 → S m2))) := by
  obtain ⟨⟨w1, w2, w3, w4, w5, w6, w7⟩, hP⟩ := id hI.1
  have hL0 : mem 2 1 = gL (mem 123) := hP.1.2.1
  have bad : ¬ ((0 ≤ a ∧ a < gP (mem 123)) ∧ (0 ≤ b ∧ b < gP (mem 123)) ∧ a ≠ b ∧ (1 ≤ c ∧ c ≤ 5)) → zC (d + 9) K_Mo_talk [(2, Int.ofNat 122), (0, a), (0, b), (0, c)] mem (fun r2 m2 => (-1 = r2 → R m2) ∧ (-1 ≠ r2 → S m2)) := fun hb =>
    c_Mo_talk hI.1 (fun _ => ⟨fun _ => hR _ hI, fun q => absurd rfl q⟩) (fun _ h1 h2 h3 h4 => absurd ⟨h1, h2, h3, h4⟩ hb) (fun _ h1 h2 h3 h4 => absurd ⟨h1, h2, h3, h4⟩ hb)
  refine v_Od_talk (c_Pa_hasOne (d := d + 7) (Or.inl rfl) hP (fun c1 => ⟨fun q => absurd q (by decide), fun _ => ?_⟩) (fun c1 => ⟨fun _ => bad (fun z => c1 z.1), fun q => absurd rfl q⟩))
  refine c_Pa_hasOne (d := d + 7) (Or.inl rfl) hP (fun c2 => ⟨fun q => absurd q (by decide), fun _ => ?_⟩) (fun c2 => ⟨fun _ => bad (fun z => c2 z.2.1), fun q => absurd rfl q⟩)
  refine ⟨fun e => bad (fun z => z.2.2.1 e), fun hne => ⟨fun c3 => bad (fun z => by omega), fun c3 => ⟨fun c4 => ?_, fun c4 => bad (fun z => by omega)⟩⟩⟩
  rw [hL0]
  refine ⟨fun hL => ⟨by omega, by omega, ?_⟩, fun hL => c_Mo_talk hI.1 (fun z => absurd ⟨c1, c2, hne, c3, c4⟩ z) (fun _ _ _ _ _ => ⟨fun _ => hR _ hI, fun q => absurd rfl q⟩) (fun z => absurd hL z)⟩
  obtain ⟨ka1, ka2⟩ := zPa_wk (p := 1) (Or.inl rfl) (i := a.toNat) (by omega)
  obtain ⟨kb1, kb2⟩ := zPa_wk (p := 1) (Or.inl rfl) (i := b.toNat) (by omega)
  have hWa := w5 a.toNat (by omega)
  have hWb := w5 b.toNat (by omega)
  have hpa := hP.2.2.1 a.toNat (by omega)
  have hpb := hP.2.2.1 b.toNat (by omega)
  rw [show zrt 8 a.toNat = 1 + 8 + a.toNat from ka1, show zrt 8 b.toNat = 1 + 8 + b.toNat from kb1]
  have hra : 0 ≤ gR (mem 123) a.toNat ∧ gR (mem 123) a.toNat < 10 := by have := hWa.1; omega
  have hrb : 0 ≤ gR (mem 123) b.toNat ∧ gR (mem 123) b.toNat < 10 := by have := hWb.1; omega
  have tb : ∀ p, gWk (mem 123) (mem 122 1) p → zn4 (gT (mem 123) p) = -1 ∨ (0 ≤ zn4 (gT (mem 123) p) ∧ zn4 (gT (mem 123) p) < gN (mem 123)) := fun p hp => zn4_or (hp.2.1.imp id (fun z => ⟨z.1, z.2.1⟩))
  refine c_Tw_prepare (d := d + 5) (g := mem 123) (rm := mem 122 1) (rp := gR (mem 123) a.toNat) (rq := gR (mem 123) b.toNat) ka2 kb2 (by omega) hP.1 w1 ⟨hpa.1, hra⟩ ⟨hpb.1, hrb⟩ (by rw [hpa.2.1]; exact tb _ hWa) (by rw [hpb.2.1]; exact tb _ hWb) (fun m1 hp h6 h7 h0 h8 hf => ?_)
  rw [hpa.2.1] at h6
  rw [hpb.2.1] at h7
  obtain ⟨vA, eA⟩ := fsp_ok (rp := gR (mem 123) a.toNat) (rq := gR (mem 123) b.toNat) w1 hL (new := 28) w2.2 hWa (Or.inl rfl) (by unfold rmoS; rw [if_neg (by omega), if_pos rfl])
  obtain ⟨vB, eB⟩ := fsp_ok (rp := gR (mem 123) a.toNat) (rq := gR (mem 123) b.toNat) w1 hL (new := 29) w2.2 hWb (Or.inr rfl) (by unfold rmoS; rw [if_neg (by omega), if_neg (by omega)])
  obtain ⟨k, rfl⟩ : ∃ k : Nat, c = (k : Int) := ⟨c.toNat, by omega⟩
  refine c_Tw_untilTalked (d := d + 3) hp (fun s t hs ht => vS_cl w1 hs ht) vA vB h6 h7 h0 (by omega) (fun v m2 hv hf2 => ?_)
  have hs : zKp mem m2 := (zKp.cl (fun k hk => hf k (by omega))).trans (zKp.cl (fun k hk => hf2.1 k (by omega)))
  have e3 := hs.pg
  have hI2 := hI.sc hs
  have hw := talk_map w1 hL hra hrb (k := k) (by omega) vA vB eA eB hv
  refine c_Mo_talk hI2.1 (fun z => absurd ⟨by rw [e3]; exact c1, by rw [e3]; exact c2, hne, c3, c4⟩ z) (fun z => by rw [e3] at z; exact absurd z hL) (fun _ _ _ _ _ v' m3 hv' hf3 => ?_)
  rw [e3, Int.toNat_natCast] at hv'
  have := wkA_fn hw hv'
  exact ⟨fun _ => hR _ (hI2.sc hf3.sc), fun q => absurd this q⟩
theorem T_cup {a b c : Int} (hI : Inv mem) (hR : ∀ m', Inv m' → R m') : zC (d + 9) K_Od_cup [(2, Int.ofNat 0), (0, a), (0, b), (0, c)] mem (fun r1 m1 => zC (d + 9) K_Mo_cup [(2, Int.ofNat 122), (0, a), (0, b), (0, c)] m1 (fun r2 m2 => (r1 = r2 → R m2) ∧ (r1 ≠ r2 → S m2))) := by
  obtain ⟨⟨w1, w2, w3, w4, w5, w6, w7⟩, hP⟩ := id hI.1
  have hL0 : mem 2 1 = gL (mem 123) := hP.1.2.1
  have h20 : mem 2 0 = mem 122 1 := hP.1.1
  have bad : ¬ ((0 ≤ a ∧ a < gP (mem 123)) ∧ (0 ≤ b ∧ b < gP (mem 123)) ∧ a ≠ b ∧ (0 ≤ c ∧ c < mem 122 1)) → zC (d + 9) K_Mo_cup [(2, Int.ofNat 122), (0, a), (0, b), (0, c)] mem (fun r2 m2 => (-1 = r2 → R m2) ∧ (-1 ≠ r2 → S m2)) := fun hb =>
    c_Mo_cup hI.1 (fun _ => ⟨fun _ => hR _ hI, fun q => absurd rfl q⟩) (fun _ h1 h2 h3 h4 => absurd ⟨h1, h2, h3, h4⟩ hb) (fun _ h1 h2 h3 h4 => absurd ⟨h1, h2, h3, h4⟩ hb)
  refine v_Od_cup (c_Pa_hasOne (d := d + 7) (Or.inl rfl) hP (fun c1 => ⟨fun q => absurd q (by decide), fun _ => ?_⟩) (fun c1 => ⟨fun _ => bad (fun z => c1 z.1), fun q => absurd rfl q⟩))
  refine c_Pa_hasOne (d := d + 7) (Or.inl rfl) hP (fun c2 => ⟨fun q => absurd q (by decide), fun _ => ?_⟩) (fun c2 => ⟨fun _ => bad (fun z => c2 z.2.1), fun q => absurd rfl q⟩)
  refine ⟨fun e => bad (fun z => z.2.2.1 e), fun hne => c_Ho_hasRoom (d := d + 7) (Or.inl rfl) (fun c3 => ⟨fun _ => ?_, fun q => absurd q (by decide)⟩) (fun c3 => ⟨fun q => absurd rfl q, fun _ => bad (fun z => c3 (by rw [h20]; exact z.2.2.2))⟩)⟩
  rw [h20] at c3
  rw [hL0]
  refine ⟨fun hL => ⟨by omega, by omega, ?_⟩, fun hL => c_Mo_cup hI.1 (fun z => absurd ⟨c1, c2, hne, c3⟩ z) (fun _ _ _ _ _ => ⟨fun _ => hR _ hI, fun q => absurd rfl q⟩) (fun z => absurd hL z)⟩
  obtain ⟨ka1, ka2⟩ := zPa_wk (p := 1) (Or.inl rfl) (i := a.toNat) (by omega)
  obtain ⟨kb1, kb2⟩ := zPa_wk (p := 1) (Or.inl rfl) (i := b.toNat) (by omega)
  have hWa := w5 a.toNat (by omega)
  have hWb := w5 b.toNat (by omega)
  have hpa := hP.2.2.1 a.toNat (by omega)
  have hpb := hP.2.2.1 b.toNat (by omega)
  rw [show zrt 8 a.toNat = 1 + 8 + a.toNat from ka1, show zrt 8 b.toNat = 1 + 8 + b.toNat from kb1]
  have hra : 0 ≤ gR (mem 123) a.toNat ∧ gR (mem 123) a.toNat < 10 := by have := hWa.1; omega
  have hrb : 0 ≤ gR (mem 123) b.toNat ∧ gR (mem 123) b.toNat < 10 := by have := hWb.1; omega
  have tb : ∀ p, gWk (mem 123) (mem 122 1) p → zn4 (gT (mem 123) p) = -1 ∨ (0 ≤ zn4 (gT (mem 123) p) ∧ zn4 (gT (mem 123) p) < gN (mem 123)) := fun p hp => zn4_or (hp.2.1.imp id (fun z => ⟨z.1, z.2.1⟩))
  refine c_Tw_prepare (d := d + 5) (g := mem 123) (rm := mem 122 1) (rp := gR (mem 123) a.toNat) (rq := gR (mem 123) b.toNat) ka2 kb2 (by omega) hP.1 w1 ⟨hpa.1, hra⟩ ⟨hpb.1, hrb⟩ (by rw [hpa.2.1]; exact tb _ hWa) (by rw [hpb.2.1]; exact tb _ hWb) (fun m1 hp h6 h7 h0 h8 hf => ?_)
  rw [hpa.2.1] at h6
  rw [hpb.2.1] at h7
  obtain ⟨vA, eA⟩ := fsp_ok (rp := gR (mem 123) a.toNat) (rq := gR (mem 123) b.toNat) w1 hL (new := 28) w2.2 hWa (Or.inl rfl) (by unfold rmoS; rw [if_neg (by omega), if_pos rfl])
  obtain ⟨vB, eB⟩ := fsp_ok (rp := gR (mem 123) a.toNat) (rq := gR (mem 123) b.toNat) w1 hL (new := 29) w2.2 hWb (Or.inr rfl) (by unfold rmoS; rw [if_neg (by omega), if_neg (by omega)])
  have hsome : ∀ s, vS (mem 123) s → ∃ t, nxS (mem 123) (gR (mem 123) a.toNat) (gR (mem 123) b.toNat) s t := by
    intro s hs
    by_cases h : ∃ k : Nat, gMay (mem 123) (rmoS (mem 123) (gR (mem 123) a.toNat) (gR (mem 123) b.toNat) s) (lsS s) (-1) k
    · obtain ⟨k, hk⟩ := h
      exact ⟨_, Or.inl ⟨k, hk, rfl⟩⟩
    · exact ⟨s, Or.inr ⟨fun k hk => h ⟨k, hk⟩, rfl⟩⟩
  refine c_Tw_untilCupIn (d := d + 3) hp (fun s t hs ht => vS_cl w1 hs ht) hsome (c0 := c) (by omega) vA vB h6 h7 h0 (fun v m2 hv hf2 => ?_)
  have hs : zKp mem m2 := (zKp.cl (fun k hk => hf k (by omega))).trans (zKp.cl (fun k hk => hf2.1 k (by omega)))
  have e3 := hs.pg
  have hI2 := hI.sc hs
  have hw := cup_map w1 hL hra hrb vA vB eA eB hv
  refine c_Mo_cup hI2.1 (fun z => absurd ⟨by rw [e3]; exact c1, by rw [e3]; exact c2, hne, by rw [hs.ro]; exact c3⟩ z) (fun z => by rw [e3] at z; exact absurd z hL) (fun _ _ _ _ _ v' m3 hv' hf3 => ?_)
  rw [e3] at hv'
  have := wkA_fn hw hv'
  exact ⟨fun _ => hR _ (hI2.sc hf3.sc), fun q => absurd this q⟩
end
