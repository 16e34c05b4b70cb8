section
/-! palace: the reference's lines. -/
variable {d : Nat} {mem m m' m2 : zMem} {Q : Int → zMem → Prop} {b : Nat → Int} {L i j : Nat} {st st' : zPD} {g : zPg} {ws h v : Int}
/-- h is the highest room that was told (-1: none) -/
def hiR (g : zPg) (h : Int) : Prop := ∀ v : Int, 0 ≤ v → (h < v ↔ (∀ k : Nat, (k : Int) < gN g → gA g k < v ∧ gB g k < v) ∧ ∀ p : Nat, (p : Int) < gP g → gR g p < v)
def hiD (ws h : Int) : Prop := ∀ v : Int, 0 ≤ v → (h < v ↔ ∀ j : Nat, j < 14 → zB ws j → (j : Int) < v)
def mx (h r : Int) : Int := if r ≤ h then h else r
theorem mx_lt {h r v : Int} : mx h r < v ↔ h < v ∧ r < v := by
  unfold mx
  split <;> omega
/-- what the reference has read so far -/
def rD (m : zMem) (st : zPD) : Prop := (∀ i, i < 88 → m 124 i = st.1 i) ∧ (∀ k : Nat, gN st.1 ≤ (k : Int) → k < 14 → gC st.1 k = 0 ∧ gX st.1 k = 0) ∧ m 122 3 = st.2.1 ∧ m 122 4 = st.2.2.1 ∧ m 122 5 = st.2.2.2.1 ∧ m 122 6 = st.2.2.2.2 ∧ hiR st.1 (m 122 7) ∧ hiD st.2.2.2.2 (m 122 8)
def vFr (mem m' : zMem) : Prop := (∀ k, k ≠ 122 → k ≠ 124 → m' k = mem k) ∧ ∀ j, j < 3 ∨ (8 < j ∧ j < 12) ∨ 17 < j → m' 122 j = mem 122 j
theorem vFr.refl : vFr mem mem := ⟨fun _ _ _ => rfl, fun _ _ => rfl⟩
theorem vFr.trans (h : vFr mem m') (h' : vFr m' m2) : vFr mem m2 := ⟨fun k k1 k2 => by rw [h'.1 k k1 k2, h.1 k k1 k2], fun j hj => by rw [h'.2 j hj, h.2 j hj]⟩
theorem rFr.vf (h : rFr mem m') : vFr mem m' := ⟨fun k k1 _ => h.1 k k1, fun j hj => h.2 j (by omega)⟩
theorem vFr.up {m1 : zMem} (h : vFr mem m) {j : Nat} {v : Int} (e : m1 = zup m 122 j v) (hj : (3 ≤ j ∧ j ≤ 8) ∨ (12 ≤ j ∧ j ≤ 17)) : vFr mem m1 := ⟨fun k k1 k2 => by funext x; rw [e, zup_k k1, h.1 k k1 k2], fun x hx => by rw [e, zup_j (by omega), h.2 x hx]⟩
theorem vFr.pg {m1 : zMem} (h : vFr mem m) {j : Nat} {v : Int} (e : m1 = zup m 124 j v) : vFr mem m1 := ⟨fun k k1 k2 => by funext x; rw [e, zup_k k2, h.1 k k1 k2], fun x hx => by rw [e, zup_k (by omega), h.2 x hx]⟩
theorem rB.vf (h : rB mem b L) (hf : vFr mem m') : rB m' b L := by
  unfold rB at h ⊢
  rw [hf.2 10 (by omega), hf.1 125 (by omega) (by omega), hf.1 126 (by omega) (by omega), hf.1 127 (by omega) (by omega)]
  exact h
theorem rD.fr (h : rD mem st) (hf : rFr mem m') : rD m' st := by
  unfold rD at h ⊢
  rw [hf.1 124 (by omega), hf.2 3 (by omega), hf.2 4 (by omega), hf.2 5 (by omega), hf.2 6 (by omega), hf.2 7 (by omega), hf.2 8 (by omega)]
  exact h
theorem rTk.fr (ht : rTk m b L i) (h : ∀ j, 11 < j → j < 18 → m' 122 j = m 122 j) : rTk m' b L i := by
  unfold rTk at ht ⊢
  rw [h 12 (by omega) (by omega), h 13 (by omega) (by omega), h 14 (by omega) (by omega), h 15 (by omega) (by omega), h 16 (by omega) (by omega), h 17 (by omega) (by omega)]
  exact ht
theorem rBr.fr {c : Int} {p : Nat} (hb : rBr m c p) (h : ∀ j, j = 12 ∨ j = 13 → m' 122 j = m 122 j) : rBr m' c p := by
  unfold rBr at hb ⊢
  rw [h 12 (by omega), h 13 (by omega)]
  exact hb
theorem hiR_law (hN : gN g ≤ 14) (hP : gP g ≤ 5) (q : hiR g h) : hiR (gLw g v) h := by
  have e1 : ∀ k : Nat, (k : Int) < gN g → gA (gLw g v) k = gA g k ∧ gB (gLw g v) k = gB g k := fun k hk => ⟨gLw_at _ _ (by omega), gLw_at _ _ (by omega)⟩
  have e2 : ∀ p : Nat, (p : Int) < gP g → gR (gLw g v) p = gR g p := fun p hp => gLw_at _ _ (by omega)
  have e3 : gN (gLw g v) = gN g := gLw_at _ _ (by omega)
  have e4 : gP (gLw g v) = gP g := gLw_at _ _ (by omega)
  intro v' hv
  rw [q v' hv, e3, e4]
  constructor
  · rintro ⟨a1, a2⟩
    refine ⟨fun k hk => ?_, fun p hp => ?_⟩
    · rw [(e1 k hk).1, (e1 k hk).2]; exact a1 k hk
    · rw [e2 p hp]; exact a2 p hp
  · rintro ⟨a1, a2⟩
    refine ⟨fun k hk => ?_, fun p hp => ?_⟩
    · have := a1 k hk; rw [(e1 k hk).1, (e1 k hk).2] at this; exact this
    · have := a2 p hp; rw [e2 p hp] at this; exact this
theorem hiR_one {r : Int} (hN : gN g ≤ 14) (hP : 0 ≤ gP g ∧ gP g < 5) (q : hiR g h) : hiR (gOne g r) (mx h r) := by
  obtain ⟨a1, a2, a3, a4, a5⟩ := gOne_at (g := g) (r := r) hP
  intro v' hv
  rw [mx_lt, q v' hv, a2.N, a1]
  constructor
  · rintro ⟨⟨b1, b2⟩, b3⟩
    refine ⟨fun k hk => ?_, fun p hp => ?_⟩
    · obtain ⟨c1, c2, -⟩ := a2.at (k := k) (by omega)
      rw [c1, c2]; exact b1 k hk
    · by_cases e : (p : Int) = gP g
      · rw [show p = (gP g).toNat by omega, a5.1]; exact b3
      · rw [(a4 p (by omega)).1]; exact b2 p (by omega)
  · rintro ⟨b1, b2⟩
    refine ⟨⟨fun k hk => ?_, fun p hp => ?_⟩, ?_⟩
    · obtain ⟨c1, c2, -⟩ := a2.at (k := k) (by omega)
      have := b1 k hk
      rw [c1, c2] at this; exact this
    · have := b2 p (by omega)
      rw [(a4 p (by omega)).1] at this; exact this
    · have := b2 (gP g).toNat (by omega)
      rw [a5.1] at this; exact this
theorem hiR_door {x y c : Int} (hN : 0 ≤ gN g ∧ gN g < 14) (q : hiR g h) : hiR (gAdd g x y c) (mx (mx h x) y) := by
  obtain ⟨a1, a2, a3, a4⟩ := gAdd_at (g := g) (a := x) (b := y) (c := c) hN
  have eP : gP (gAdd g x y c) = gP g := a2 72 (by omega)
  have eR : ∀ p, gR (gAdd g x y c) p = gR g p := fun p => a2 _ (by omega)
  intro v' hv
  rw [mx_lt, mx_lt, q v' hv, a1, eP]
  constructor
  · rintro ⟨⟨⟨b1, b2⟩, b3⟩, b4⟩
    refine ⟨fun k hk => ?_, fun p hp => by rw [eR]; exact b2 p hp⟩
    by_cases e : (k : Int) = gN g
    · rw [show k = (gN g).toNat by omega, a4.1, a4.2.1]; exact ⟨b3, b4⟩
    · obtain ⟨c1, c2, -⟩ := a3 k (by omega)
      rw [c1, c2]; exact b1 k (by omega)
  · rintro ⟨b1, b2⟩
    have hl := b1 (gN g).toNat (by omega)
    rw [a4.1, a4.2.1] at hl
    refine ⟨⟨⟨fun k hk => ?_, fun p hp => ?_⟩, hl.1⟩, hl.2⟩
    · obtain ⟨c1, c2, -⟩ := a3 k (by omega)
      have := b1 k (by omega)
      rw [c1, c2] at this; exact this
    · have := b2 p hp
      rw [eR] at this; exact this
theorem hiD_put (hv : 0 ≤ v ∧ v < 14) (q : hiD ws h) : hiD (zor ws (zshl 1 v)) (mx h v) := by
  intro v' hv'
  rw [mx_lt, q v' hv']
  constructor
  · rintro ⟨b1, b2⟩ j hj hb
    rw [(zB_put (by omega) hv.1 (by omega)).1] at hb
    rcases hb with hb | hb
    · exact b1 j hj hb
    · omega
  · intro b1
    refine ⟨fun j hj hb => b1 j hj ?_, ?_⟩
    · rw [(zB_put (by omega) hv.1 (by omega)).1]; exact Or.inl hb
    · have := b1 v.toNat (by omega) (by rw [(zB_put (by omega) hv.1 (by omega)).1]; exact Or.inr (by omega))
      omega
/-! A room. -/
def rmF (b : Nat → Int) (L i : Nat) (a : Int) : Sum (Int × Nat) (Int × Nat) := bnd (numF b L i 0 9) (fun v => if v.1 = a then .inl (4, tkS b L i) else .inr v)
def sFr (mem m' : zMem) : Prop := (∀ k, k ≠ 122 → m' k = mem k) ∧ ∀ j, j ≠ 7 → j < 12 ∨ 17 < j → m' 122 j = mem 122 j
theorem sFr.vf (h : sFr mem m') : vFr mem m' := ⟨fun k k1 _ => h.1 k k1, fun j hj => h.2 j (by omega) (by omega)⟩
theorem rFr.s (h : rFr mem m') : sFr mem m' := ⟨h.1, fun j _ hj => h.2 j hj⟩
theorem sFr.up {m1 : zMem} (h : sFr mem m) {v : Int} (e : m1 = zup m 122 7 v) : sFr mem m1 := ⟨fun k hk => by funext x; rw [e, zup_k hk, h.1 k hk], fun x h7 hx => by rw [e, zup_j h7, h.2 x h7 hx]⟩
theorem sFr.trans (h : sFr mem m') (h' : sFr m' m2) : sFr mem m2 := ⟨fun k k1 => by rw [h'.1 k k1, h.1 k k1], fun j h7 hj => by rw [h'.2 j h7 hj, h.2 j h7 hj]⟩
theorem mx_set {a : Int} {P : zMem → Prop} (hP : ∀ m', m' = zup m 122 7 (mx (m 122 7) a) → P m') : (a ≤ m 122 7 → ∀ m3 : zMem, m3 = zup m 122 7 (m 122 7) → P m3) ∧ (m 122 7 < a → ∀ m4 : zMem, m4 = zup m 122 7 a → P m4) := by
  refine ⟨fun c m3 e => hP m3 ?_, fun c m3 e => hP m3 ?_⟩
  · rw [e]; unfold mx; rw [if_pos c]
  · rw [e]; unfold mx; rw [if_neg (by omega)]
theorem c_Mo_roomB {a : Int} (h12 : 0 < mem 122 12) (hQ : ∀ m' : zMem, (∀ k, k ≠ 122 → m' k = mem k) → (∀ j, j ≠ 7 → m' 122 j = mem 122 j) → Q 0 m') : zC (d + 3) K_Mo_room [(2, Int.ofNat 122), (0, a)] mem Q :=
  v_Mo_room (c_Mo_looksB (d := d + 1) (by omega) ⟨fun _ => c_Mo_numberB (d := d) h12 (mx_set fun m' e => hQ m' (fun k hk => by funext x; rw [e, zup_k hk]) (fun j hj => by rw [e, zup_j hj])), fun z => by omega⟩)
theorem c_Mo_room {a : Int} (hB : rB mem b L) (hi : i ≤ L) (ht : rTk mem b L i) (hQe : ∀ c p, rmF b L i a = .inl (c, p) → 0 < c → ∀ m' : zMem, rBr m' c p → sFr mem m' → Q 0 m') (hQk : ∀ v j, rmF b L i a = .inr (v, j) → numF b L i 0 9 = .inr (v, j) → v ≠ a → ∀ m' : zMem, rTk m' b L j → sFr mem m' → m' 122 7 = mx (mem 122 7) v → Q v m') : zC (d + 4) K_Mo_room [(2, Int.ofNat 122), (0, a)] mem Q := by
  refine v_Mo_room (c_Mo_looks (d := d + 1) ht (fun c p hn m' hb hf => ?_) (fun v j hn h17 h14 h12 => ?_))
  · have hc : 0 < c := by have := (numF_l hn).1; omega
    have h12 : 0 < m' 122 12 := by rw [hb.1]; exact hc
    refine ⟨fun _ => c_Mo_numberB (d := d + 1) h12 (mx_set fun m2 e => hQe c p (by unfold rmF; rw [hn]; rfl) hc m2 (hb.fr (fun j hj => by rw [e, zup_j (by omega)])) (hf.s.up e)), fun z => by omega⟩
  · have hr : rmF b L i a = if v = a then .inl (4, tkS b L i) else .inr (v, j) := by unfold rmF; rw [hn]; rfl
    refine ⟨fun z => absurd h12 z, fun _ => ?_⟩
    rw [h17]
    refine ⟨fun c => ?_, fun c => ?_⟩
    · rw [if_neg c] at hr
      refine c_Mo_number (d := d) hB hi ht (fun c p hn' => absurd (hn.symm.trans hn') (by simp)) (fun v' j' hn' m2 ht2 hf2 => ?_)
      have e := hn.symm.trans hn'
      injection e with e
      injection e with e1 e2
      rw [← e1]
      rw [← e2] at ht2
      refine mx_set fun m3 e => hQk v j hr hn c m3 (ht2.fr (fun x x1 x2 => by rw [e, zup_j (by omega)])) (hf2.s.up e) ?_
      rw [e, zup_e, hf2.2 7 (by omega)]
    · rw [if_pos c] at hr
      refine c_Mo_fails (d := d + 2) (fun m2 q1 q2 q3 q4 => ?_)
      have hb : rBr m2 4 (tkS b L i) := ⟨(q2 h12).1, by rw [(q2 h12).2, ht.1]⟩
      have hf : sFr mem m2 := ⟨q3, fun x h7 hx => q4 x (by omega) (by omega)⟩
      exact c_Mo_numberB (d := d + 1) (by rw [hb.1]; decide) (mx_set fun m3 e => hQe 4 _ hr (by decide) m3 (hb.fr (fun j hj => by rw [e, zup_j (by omega)])) (hf.up e))
theorem rmF_4 : rmF b L i (-4) = numF b L i 0 9 := by
  unfold rmF
  cases h : numF b L i 0 9 with
  | inl a => rfl
  | inr y =>
    obtain ⟨v, j⟩ := y
    have := (numF_r h).2.1
    show (if v = -4 then _ else _) = _
    rw [if_neg (by omega)]
end
