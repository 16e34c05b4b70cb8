section
/-! Each instruction of the mini machine is what the machine does (printed by wip/whole/gen_sound.py). -/
theorem zoc {v : zV} {r : List zV} (h : zok v) (hr : ∀ u ∈ r, zok u) : ∀ u ∈ v :: r, zok u := List.forall_mem_cons.mpr ⟨h, hr⟩
theorem zot {v : zV} {r : List zV} (h : ∀ u ∈ v :: r, zok u) : ∀ u ∈ r, zok u := (List.forall_mem_cons.mp h).2
theorem zoh {v : zV} {r : List zV} (h : ∀ u ∈ v :: r, zok u) : zok v := (List.forall_mem_cons.mp h).1
variable {d : Nat} {M : zMt} {Q : Int → zMem → Prop} {pc : Nat} {ls st : List zV} {mem : zMem} {k : Nat → List zV → List zV → zMem → Prop}
theorem zs_iconst {n : Int} (hd : decode (zKb (zMk M)) pc = .ok (.iconst n, 1)) (hn : zI n) (hk : ∀ pc ls st mem, k pc ls st mem → zG d M pc ls st mem Q) (h : k (pc + 1) ls ((0, n) :: st) mem) : zG d M pc ls st mem Q := by
  intro p l e R s m args below meth c H locs cells slots Qf E lj C hc hs hH hS hL hl hst hR
  obtain ⟨hx, hb, hml, hown, hts, hfr, hlo, hOn, hscr⟩ := id C
  exact lv_iconst hx hb hd rfl (hk _ _ _ _ h p l e R s m args below meth c _ _ cells slots Qf E _ C hc hs hH hS hL hl (zoc hn hst) hR)
theorem zb8 {n : Int} (h : -128 ≤ n ∧ n < 128) : (Int8.ofInt n).toInt32 = Int32.ofInt n := by
  rw [← Int32.toInt_inj, Int8.toInt_toInt32, Int8.toInt_ofInt_of_le (by omega) (by omega), zI_to (by unfold zI; omega)]
theorem zb16 {n : Int} (h : -32768 ≤ n ∧ n < 32768) : (Int16.ofInt n).toInt32 = Int32.ofInt n := by
  rw [← Int32.toInt_inj, Int16.toInt_toInt32, Int16.toInt_ofInt_of_le (by omega) (by omega), zI_to (by unfold zI; omega)]
theorem zs_bipush {n : Int} (hd : decode (zKb (zMk M)) pc = .ok (.bipush n, 2)) (hn : -128 ≤ n ∧ n < 128) (hk : ∀ pc ls st mem, k pc ls st mem → zG d M pc ls st mem Q) (h : k (pc + 2) ls ((0, n) :: st) mem) : zG d M pc ls st mem Q := by
  intro p l e R s m args below meth c H locs cells slots Qf E lj C hc hs hH hS hL hl hst hR
  obtain ⟨hx, hb, hml, hown, hts, hfr, hlo, hOn, hscr⟩ := id C
  exact lv_bipush hx hb hd (zb8 hn) (hk _ _ _ _ h p l e R s m args below meth c _ _ cells slots Qf E _ C hc hs hH hS hL hl (zoc (show zI n by unfold zI; omega) hst) hR)
theorem zs_sipush {n : Int} (hd : decode (zKb (zMk M)) pc = .ok (.sipush n, 3)) (hn : -32768 ≤ n ∧ n < 32768) (hk : ∀ pc ls st mem, k pc ls st mem → zG d M pc ls st mem Q) (h : k (pc + 3) ls ((0, n) :: st) mem) : zG d M pc ls st mem Q := by
  intro p l e R s m args below meth c H locs cells slots Qf E lj C hc hs hH hS hL hl hst hR
  obtain ⟨hx, hb, hml, hown, hts, hfr, hlo, hOn, hscr⟩ := id C
  exact lv_sipush hx hb hd (zb16 hn) (hk _ _ _ _ h p l e R s m args below meth c _ _ cells slots Qf E _ C hc hs hH hS hL hl (zoc (show zI n by unfold zI; omega) hst) hR)
theorem zs_lconst {n : Fin 2} (hd : decode (zKb (zMk M)) pc = .ok (.lconst n, 1)) (hk : ∀ pc ls st mem, k pc ls st mem → zG d M pc ls st mem Q) (h : k (pc + 1) ls ((1, Int.ofNat n.val) :: st) mem) : zG d M pc ls st mem Q := by
  intro p l e R s m args below meth c H locs cells slots Qf E lj C hc hs hH hS hL hl hst hR
  obtain ⟨hx, hb, hml, hown, hts, hfr, hlo, hOn, hscr⟩ := id C
  refine lv_lconst hx hb hd (v := Int64.ofInt (Int.ofNat n.val)) ?_ (hk _ _ _ _ h p l e R s m args below meth c _ _ cells slots Qf E _ C hc hs hH hS hL hl (zoc (show zJ _ by unfold zJ; have := n.isLt; simp only [Int.ofNat_eq_natCast]; omega) hst) hR)
  rcases n with ⟨n, hn⟩
  rcases (show n = 0 ∨ n = 1 by omega) with rfl | rfl
  · show Int64.ofNat 0 = Int64.ofInt (Int.ofNat 0)
    decide +kernel
  · show Int64.ofNat 1 = Int64.ofInt (Int.ofNat 1)
    decide +kernel
theorem zLo_at {E : zEnv} {n i : Nat} {ls : List zV} {lj : Array Slot} {v : zV} (h : zLo E n ls lj) (hi : ls[i]? = some v) (hv : v.1 < 9) : lj[i]? = some (.val (zv E v)) := h.2.2.2 i v hi hv
theorem zok_at {i : Nat} {ls : List zV} {v : zV} (h : ∀ u ∈ ls, zok u) (hi : ls[i]? = some v) : zok v := h v (List.mem_of_getElem? hi)
theorem zld_spec {t : Nat} {ls : List zV} {i : Nat} {k : zV → Prop} (h : zld t ls i k) : ∃ x, ls[i]? = some (t, x) ∧ k (t, x) := by
  unfold zld at h
  split at h
  · rename_i s x hs
    split at h
    · rename_i hb
      have := Nat.eq_of_beq_eq_true hb
      subst this
      exact ⟨x, hs, h⟩
    · exact h.elim
  · exact h.elim
theorem zlda_spec {ls : List zV} {i : Nat} {k : zV → Prop} (h : zlda ls i k) : ∃ t x, ls[i]? = some (t, x) ∧ (t = 2 ∨ t = 3 ∨ t = 5) ∧ k (t, x) := by
  unfold zlda at h
  split at h
  · rename_i x hs
    exact ⟨2, x, hs, Or.inl rfl, h⟩
  · rename_i x hs
    exact ⟨3, x, hs, Or.inr (Or.inl rfl), h⟩
  · rename_i x hs
    exact ⟨5, x, hs, Or.inr (Or.inr rfl), h⟩
  · exact h.elim
theorem zs_iload_n {n : Fin 4} (hd : decode (zKb (zMk M)) pc = .ok (.iload_n n, 1)) (hk : ∀ pc ls st mem, k pc ls st mem → zG d M pc ls st mem Q) (h : zld 0 ls n.val (fun v => k (pc + 1) ls (v :: st) mem)) : zG d M pc ls st mem Q := by
  intro p l e R s m args below meth c H locs cells slots Qf E lj C hc hs hH hS hL hl hst hR
  obtain ⟨hx, hb, hml, hown, hts, hfr, hlo, hOn, hscr⟩ := id C
  obtain ⟨x, hi, h⟩ := zld_spec h
  exact lv_iload_n hx hb hd rfl (zLo_at hL hi (by show _ < 9; omega)) (hk _ _ _ _ h p l e R s m args below meth c _ _ cells slots Qf E _ C hc hs hH hS hL hl (zoc (zok_at hl hi) hst) hR)
theorem zs_iload {n : Nat} (hd : decode (zKb (zMk M)) pc = .ok (.iload n, 2)) (hk : ∀ pc ls st mem, k pc ls st mem → zG d M pc ls st mem Q) (h : zld 0 ls n (fun v => k (pc + 2) ls (v :: st) mem)) : zG d M pc ls st mem Q := by
  intro p l e R s m args below meth c H locs cells slots Qf E lj C hc hs hH hS hL hl hst hR
  obtain ⟨hx, hb, hml, hown, hts, hfr, hlo, hOn, hscr⟩ := id C
  obtain ⟨x, hi, h⟩ := zld_spec h
  exact lv_iload hx hb hd (zLo_at hL hi (by show _ < 9; omega)) (hk _ _ _ _ h p l e R s m args below meth c _ _ cells slots Qf E _ C hc hs hH hS hL hl (zoc (zok_at hl hi) hst) hR)
theorem zs_lload_n {n : Fin 4} (hd : decode (zKb (zMk M)) pc = .ok (.lload_n n, 1)) (hk : ∀ pc ls st mem, k pc ls st mem → zG d M pc ls st mem Q) (h : zld 1 ls n.val (fun v => k (pc + 1) ls (v :: st) mem)) : zG d M pc ls st mem Q := by
  intro p l e R s m args below meth c H locs cells slots Qf E lj C hc hs hH hS hL hl hst hR
  obtain ⟨hx, hb, hml, hown, hts, hfr, hlo, hOn, hscr⟩ := id C
  obtain ⟨x, hi, h⟩ := zld_spec h
  exact lv_lload_n hx hb hd rfl (zLo_at hL hi (by show _ < 9; omega)) (hk _ _ _ _ h p l e R s m args below meth c _ _ cells slots Qf E _ C hc hs hH hS hL hl (zoc (zok_at hl hi) hst) hR)
theorem zs_lload {n : Nat} (hd : decode (zKb (zMk M)) pc = .ok (.lload n, 2)) (hk : ∀ pc ls st mem, k pc ls st mem → zG d M pc ls st mem Q) (h : zld 1 ls n (fun v => k (pc + 2) ls (v :: st) mem)) : zG d M pc ls st mem Q := by
  intro p l e R s m args below meth c H locs cells slots Qf E lj C hc hs hH hS hL hl hst hR
  obtain ⟨hx, hb, hml, hown, hts, hfr, hlo, hOn, hscr⟩ := id C
  obtain ⟨x, hi, h⟩ := zld_spec h
  exact lv_lload hx hb hd (zLo_at hL hi (by show _ < 9; omega)) (hk _ _ _ _ h p l e R s m args below meth c _ _ cells slots Qf E _ C hc hs hH hS hL hl (zoc (zok_at hl hi) hst) hR)
theorem zs_aload_n {n : Fin 4} (hd : decode (zKb (zMk M)) pc = .ok (.aload_n n, 1)) (hk : ∀ pc ls st mem, k pc ls st mem → zG d M pc ls st mem Q) (h : zlda ls n.val (fun v => k (pc + 1) ls (v :: st) mem)) : zG d M pc ls st mem Q := by
  intro p l e R s m args below meth c H locs cells slots Qf E lj C hc hs hH hS hL hl hst hR
  obtain ⟨hx, hb, hml, hown, hts, hfr, hlo, hOn, hscr⟩ := id C
  obtain ⟨t, x, hi, ht, h⟩ := zlda_spec h
  rcases ht with rfl | rfl | rfl <;> exact lv_aload_n hx hb hd rfl (zLo_at hL hi (by show _ < 9; omega)) (hk _ _ _ _ h p l e R s m args below meth c _ _ cells slots Qf E _ C hc hs hH hS hL hl (zoc (zok_at hl hi) hst) hR)
theorem zs_aload {n : Nat} (hd : decode (zKb (zMk M)) pc = .ok (.aload n, 2)) (hk : ∀ pc ls st mem, k pc ls st mem → zG d M pc ls st mem Q) (h : zlda ls n (fun v => k (pc + 2) ls (v :: st) mem)) : zG d M pc ls st mem Q := by
  intro p l e R s m args below meth c H locs cells slots Qf E lj C hc hs hH hS hL hl hst hR
  obtain ⟨hx, hb, hml, hown, hts, hfr, hlo, hOn, hscr⟩ := id C
  obtain ⟨t, x, hi, ht, h⟩ := zlda_spec h
  rcases ht with rfl | rfl | rfl <;> exact lv_aload hx hb hd (zLo_at hL hi (by show _ < 9; omega)) (hk _ _ _ _ h p l e R s m args below meth c _ _ cells slots Qf E _ C hc hs hH hS hL hl (zoc (zok_at hl hi) hst) hR)
theorem zs_iadd (hd : decode (zKb (zMk M)) pc = .ok (.iadd, 1)) (hk : ∀ pc ls st mem, k pc ls st mem → zG d M pc ls st mem Q) (h : zbin st zadd (fun t => k (pc + 1) ls t mem)) : zG d M pc ls st mem Q := by
  intro p l e R s m args below meth c H locs cells slots Qf E lj C hc hs hH hS hL hl hst hR
  obtain ⟨hx, hb, hml, hown, hts, hfr, hlo, hOn, hscr⟩ := id C
  unfold zbin at h
  split at h
  · rename_i y x r
    have hg := hk _ _ _ _ h p l e R s m args below meth c _ _ cells slots Qf E _ C hc hs hH hS hL hl (zoc (zI_of _) (zot (zot hst))) hR
    refine lv_iadd hx hb hd ?_
    rw [List.map_cons, show zv E (0, zadd x y) = .int (Int32.ofInt (zadd x y)) from rfl, show Int32.ofInt (zadd x y) = _ from Int32.ofInt_toInt _] at hg
    exact hg
  · exact h.elim
theorem zs_isub (hd : decode (zKb (zMk M)) pc = .ok (.isub, 1)) (hk : ∀ pc ls st mem, k pc ls st mem → zG d M pc ls st mem Q) (h : zbin st zsub (fun t => k (pc + 1) ls t mem)) : zG d M pc ls st mem Q := by
  intro p l e R s m args below meth c H locs cells slots Qf E lj C hc hs hH hS hL hl hst hR
  obtain ⟨hx, hb, hml, hown, hts, hfr, hlo, hOn, hscr⟩ := id C
  unfold zbin at h
  split at h
  · rename_i y x r
    have hg := hk _ _ _ _ h p l e R s m args below meth c _ _ cells slots Qf E _ C hc hs hH hS hL hl (zoc (zI_of _) (zot (zot hst))) hR
    refine lv_isub hx hb hd ?_
    rw [List.map_cons, show zv E (0, zsub x y) = .int (Int32.ofInt (zsub x y)) from rfl, show Int32.ofInt (zsub x y) = _ from Int32.ofInt_toInt _] at hg
    exact hg
  · exact h.elim
theorem zs_imul (hd : decode (zKb (zMk M)) pc = .ok (.imul, 1)) (hk : ∀ pc ls st mem, k pc ls st mem → zG d M pc ls st mem Q) (h : zbin st zmul (fun t => k (pc + 1) ls t mem)) : zG d M pc ls st mem Q := by
  intro p l e R s m args below meth c H locs cells slots Qf E lj C hc hs hH hS hL hl hst hR
  obtain ⟨hx, hb, hml, hown, hts, hfr, hlo, hOn, hscr⟩ := id C
  unfold zbin at h
  split at h
  · rename_i y x r
    have hg := hk _ _ _ _ h p l e R s m args below meth c _ _ cells slots Qf E _ C hc hs hH hS hL hl (zoc (zI_of _) (zot (zot hst))) hR
    refine lv_imul hx hb hd ?_
    rw [List.map_cons, show zv E (0, zmul x y) = .int (Int32.ofInt (zmul x y)) from rfl, show Int32.ofInt (zmul x y) = _ from Int32.ofInt_toInt _] at hg
    exact hg
  · exact h.elim
theorem zs_iand (hd : decode (zKb (zMk M)) pc = .ok (.iand, 1)) (hk : ∀ pc ls st mem, k pc ls st mem → zG d M pc ls st mem Q) (h : zbin st zand (fun t => k (pc + 1) ls t mem)) : zG d M pc ls st mem Q := by
  intro p l e R s m args below meth c H locs cells slots Qf E lj C hc hs hH hS hL hl hst hR
  obtain ⟨hx, hb, hml, hown, hts, hfr, hlo, hOn, hscr⟩ := id C
  unfold zbin at h
  split at h
  · rename_i y x r
    have hg := hk _ _ _ _ h p l e R s m args below meth c _ _ cells slots Qf E _ C hc hs hH hS hL hl (zoc (zI_of _) (zot (zot hst))) hR
    refine lv_iand hx hb hd ?_
    rw [List.map_cons, show zv E (0, zand x y) = .int (Int32.ofInt (zand x y)) from rfl, show Int32.ofInt (zand x y) = _ from Int32.ofInt_toInt _] at hg
    exact hg
  · exact h.elim
theorem zs_ior (hd : decode (zKb (zMk M)) pc = .ok (.ior, 1)) (hk : ∀ pc ls st mem, k pc ls st mem → zG d M pc ls st mem Q) (h : zbin st zor (fun t => k (pc + 1) ls t mem)) : zG d M pc ls st mem Q := by
  intro p l e R s m args below meth c H locs cells slots Qf E lj C hc hs hH hS hL hl hst hR
  obtain ⟨hx, hb, hml, hown, hts, hfr, hlo, hOn, hscr⟩ := id C
  unfold zbin at h
  split at h
  · rename_i y x r
    have hg := hk _ _ _ _ h p l e R s m args below meth c _ _ cells slots Qf E _ C hc hs hH hS hL hl (zoc (zI_of _) (zot (zot hst))) hR
    refine lv_ior hx hb hd ?_
    rw [List.map_cons, show zv E (0, zor x y) = .int (Int32.ofInt (zor x y)) from rfl, show Int32.ofInt (zor x y) = _ from Int32.ofInt_toInt _] at hg
    exact hg
  · exact h.elim
theorem zs_ixor (hd : decode (zKb (zMk M)) pc = .ok (.ixor, 1)) (hk : ∀ pc ls st mem, k pc ls st mem → zG d M pc ls st mem Q) (h : zbin st zxor (fun t => k (pc + 1) ls t mem)) : zG d M pc ls st mem Q := by
  intro p l e R s m args below meth c H locs cells slots Qf E lj C hc hs hH hS hL hl hst hR
  obtain ⟨hx, hb, hml, hown, hts, hfr, hlo, hOn, hscr⟩ := id C
  unfold zbin at h
  split at h
  · rename_i y x r
    have hg := hk _ _ _ _ h p l e R s m args below meth c _ _ cells slots Qf E _ C hc hs hH hS hL hl (zoc (zI_of _) (zot (zot hst))) hR
    refine lv_ixor hx hb hd ?_
    rw [List.map_cons, show zv E (0, zxor x y) = .int (Int32.ofInt (zxor x y)) from rfl, show Int32.ofInt (zxor x y) = _ from Int32.ofInt_toInt _] at hg
    exact hg
  · exact h.elim
theorem zs_ishl (hd : decode (zKb (zMk M)) pc = .ok (.ishl, 1)) (hk : ∀ pc ls st mem, k pc ls st mem → zG d M pc ls st mem Q) (h : zbin st zshl (fun t => k (pc + 1) ls t mem)) : zG d M pc ls st mem Q := by
  intro p l e R s m args below meth c H locs cells slots Qf E lj C hc hs hH hS hL hl hst hR
  obtain ⟨hx, hb, hml, hown, hts, hfr, hlo, hOn, hscr⟩ := id C
  unfold zbin at h
  split at h
  · rename_i y x r
    have hg := hk _ _ _ _ h p l e R s m args below meth c _ _ cells slots Qf E _ C hc hs hH hS hL hl (zoc (zI_of _) (zot (zot hst))) hR
    refine lv_ishl hx hb hd ?_
    rw [List.map_cons, show zv E (0, zshl x y) = .int (Int32.ofInt (zshl x y)) from rfl, show Int32.ofInt (zshl x y) = _ from Int32.ofInt_toInt _] at hg
    exact hg
  · exact h.elim
theorem zs_ishr (hd : decode (zKb (zMk M)) pc = .ok (.ishr, 1)) (hk : ∀ pc ls st mem, k pc ls st mem → zG d M pc ls st mem Q) (h : zbin st zshr (fun t => k (pc + 1) ls t mem)) : zG d M pc ls st mem Q := by
  intro p l e R s m args below meth c H locs cells slots Qf E lj C hc hs hH hS hL hl hst hR
  obtain ⟨hx, hb, hml, hown, hts, hfr, hlo, hOn, hscr⟩ := id C
  unfold zbin at h
  split at h
  · rename_i y x r
    have hg := hk _ _ _ _ h p l e R s m args below meth c _ _ cells slots Qf E _ C hc hs hH hS hL hl (zoc (zI_of _) (zot (zot hst))) hR
    refine lv_ishr hx hb hd ?_
    rw [List.map_cons, show zv E (0, zshr x y) = .int (Int32.ofInt (zshr x y)) from rfl, show Int32.ofInt (zshr x y) = _ from Int32.ofInt_toInt _] at hg
    exact hg
  · exact h.elim
theorem zs_iushr (hd : decode (zKb (zMk M)) pc = .ok (.iushr, 1)) (hk : ∀ pc ls st mem, k pc ls st mem → zG d M pc ls st mem Q) (h : zbin st zushr (fun t => k (pc + 1) ls t mem)) : zG d M pc ls st mem Q := by
  intro p l e R s m args below meth c H locs cells slots Qf E lj C hc hs hH hS hL hl hst hR
  obtain ⟨hx, hb, hml, hown, hts, hfr, hlo, hOn, hscr⟩ := id C
  unfold zbin at h
  split at h
  · rename_i y x r
    exact lv_iushr hx hb hd (Int32.ofInt_toInt _).symm (hk _ _ _ _ h p l e R s m args below meth c _ _ cells slots Qf E _ C hc hs hH hS hL hl (zoc (zI_of _) (zot (zot hst))) hR)
  · exact h.elim
theorem zs_idiv (hd : decode (zKb (zMk M)) pc = .ok (.idiv, 1)) (hk : ∀ pc ls st mem, k pc ls st mem → zG d M pc ls st mem Q) (h : match st with
    | (0, y) :: (0, x) :: r => y ≠ 0 ∧ k (pc + 1) ls ((0, zdiv x y) :: r) mem
    | _ => False) : zG d M pc ls st mem Q := by
  intro p l e R s m args below meth c H locs cells slots Qf E lj C hc hs hH hS hL hl hst hR
  obtain ⟨hx, hb, hml, hown, hts, hfr, hlo, hOn, hscr⟩ := id C
  split at h
  · rename_i y x r
    obtain ⟨hy, h⟩ := h
    have hg := hk _ _ _ _ h p l e R s m args below meth c _ _ cells slots Qf E _ C hc hs hH hS hL hl (zoc (zI_of _) (zot (zot hst))) hR
    refine lv_idiv hx hb hd (fun q => hy ?_) ?_
    · rw [z0_i, zeq_i (zoh hst) (by unfold zI; omega)] at q
      exact q
    rw [List.map_cons, show zv E (0, zdiv x y) = .int (Int32.ofInt (zdiv x y)) from rfl, show Int32.ofInt (zdiv x y) = _ from Int32.ofInt_toInt _] at hg
    exact hg
  · exact h.elim
theorem zs_irem (hd : decode (zKb (zMk M)) pc = .ok (.irem, 1)) (hk : ∀ pc ls st mem, k pc ls st mem → zG d M pc ls st mem Q) (h : match st with
    | (0, y) :: (0, x) :: r => y ≠ 0 ∧ k (pc + 1) ls ((0, zrem x y) :: r) mem
    | _ => False) : zG d M pc ls st mem Q := by
  intro p l e R s m args below meth c H locs cells slots Qf E lj C hc hs hH hS hL hl hst hR
  obtain ⟨hx, hb, hml, hown, hts, hfr, hlo, hOn, hscr⟩ := id C
  split at h
  · rename_i y x r
    obtain ⟨hy, h⟩ := h
    have hg := hk _ _ _ _ h p l e R s m args below meth c _ _ cells slots Qf E _ C hc hs hH hS hL hl (zoc (zI_of _) (zot (zot hst))) hR
    refine lv_irem hx hb hd (fun q => hy ?_) ?_
    · rw [z0_i, zeq_i (zoh hst) (by unfold zI; omega)] at q
      exact q
    rw [List.map_cons, show zv E (0, zrem x y) = .int (Int32.ofInt (zrem x y)) from rfl, show Int32.ofInt (zrem x y) = _ from Int32.ofInt_toInt _] at hg
    exact hg
  · exact h.elim
theorem zs_ineg (hd : decode (zKb (zMk M)) pc = .ok (.ineg, 1)) (hk : ∀ pc ls st mem, k pc ls st mem → zG d M pc ls st mem Q) (h : zun st zneg (fun t => k (pc + 1) ls t mem)) : zG d M pc ls st mem Q := by
  intro p l e R s m args below meth c H locs cells slots Qf E lj C hc hs hH hS hL hl hst hR
  obtain ⟨hx, hb, hml, hown, hts, hfr, hlo, hOn, hscr⟩ := id C
  unfold zun at h
  split at h
  · rename_i x r
    have hg := hk _ _ _ _ h p l e R s m args below meth c _ _ cells slots Qf E _ C hc hs hH hS hL hl (zoc (zI_of _) (zot hst)) hR
    refine lv_ineg hx hb hd ?_
    rw [List.map_cons, show zv E (0, zneg x) = .int (Int32.ofInt (zneg x)) from rfl, show Int32.ofInt (zneg x) = _ from Int32.ofInt_toInt _] at hg
    exact hg
  · exact h.elim
theorem zs_i2b (hd : decode (zKb (zMk M)) pc = .ok (.i2b, 1)) (hk : ∀ pc ls st mem, k pc ls st mem → zG d M pc ls st mem Q) (h : zun st zi2b (fun t => k (pc + 1) ls t mem)) : zG d M pc ls st mem Q := by
  intro p l e R s m args below meth c H locs cells slots Qf E lj C hc hs hH hS hL hl hst hR
  obtain ⟨hx, hb, hml, hown, hts, hfr, hlo, hOn, hscr⟩ := id C
  unfold zun at h
  split at h
  · rename_i x r
    exact lv_i2b hx hb hd (Int32.ofInt_toInt _).symm (hk _ _ _ _ h p l e R s m args below meth c _ _ cells slots Qf E _ C hc hs hH hS hL hl (zoc (zI_of _) (zot hst)) hR)
  · exact h.elim
theorem zs_i2s (hd : decode (zKb (zMk M)) pc = .ok (.i2s, 1)) (hk : ∀ pc ls st mem, k pc ls st mem → zG d M pc ls st mem Q) (h : zun st zi2s (fun t => k (pc + 1) ls t mem)) : zG d M pc ls st mem Q := by
  intro p l e R s m args below meth c H locs cells slots Qf E lj C hc hs hH hS hL hl hst hR
  obtain ⟨hx, hb, hml, hown, hts, hfr, hlo, hOn, hscr⟩ := id C
  unfold zun at h
  split at h
  · rename_i x r
    exact lv_i2s hx hb hd (Int32.ofInt_toInt _).symm (hk _ _ _ _ h p l e R s m args below meth c _ _ cells slots Qf E _ C hc hs hH hS hL hl (zoc (zI_of _) (zot hst)) hR)
  · exact h.elim
theorem zs_i2c (hd : decode (zKb (zMk M)) pc = .ok (.i2c, 1)) (hk : ∀ pc ls st mem, k pc ls st mem → zG d M pc ls st mem Q) (h : zun st zi2c (fun t => k (pc + 1) ls t mem)) : zG d M pc ls st mem Q := by
  intro p l e R s m args below meth c H locs cells slots Qf E lj C hc hs hH hS hL hl hst hR
  obtain ⟨hx, hb, hml, hown, hts, hfr, hlo, hOn, hscr⟩ := id C
  unfold zun at h
  split at h
  · rename_i x r
    exact lv_i2c hx hb hd (Int32.ofInt_toInt _).symm (hk _ _ _ _ h p l e R s m args below meth c _ _ cells slots Qf E _ C hc hs hH hS hL hl (zoc (zI_of _) (zot hst)) hR)
  · exact h.elim
theorem zs_i2l (hd : decode (zKb (zMk M)) pc = .ok (.i2l, 1)) (hk : ∀ pc ls st mem, k pc ls st mem → zG d M pc ls st mem Q) (h : match st with
    | (0, x) :: r => k (pc + 1) ls ((1, x) :: r) mem
    | _ => False) : zG d M pc ls st mem Q := by
  intro p l e R s m args below meth c H locs cells slots Qf E lj C hc hs hH hS hL hl hst hR
  obtain ⟨hx, hb, hml, hown, hts, hfr, hlo, hOn, hscr⟩ := id C
  split at h
  · rename_i x r
    have hxx : zI x := zoh hst
    exact lv_i2l hx hb hd (zi2l_i hxx) (hk _ _ _ _ h p l e R s m args below meth c _ _ cells slots Qf E _ C hc hs hH hS hL hl (zoc (show zJ x by unfold zI at hxx; unfold zJ; omega) (zot hst)) hR)
  · exact h.elim
theorem zs_l2i (hd : decode (zKb (zMk M)) pc = .ok (.l2i, 1)) (hk : ∀ pc ls st mem, k pc ls st mem → zG d M pc ls st mem Q) (h : match st with
    | (1, x) :: r => k (pc + 1) ls ((0, zl2i x) :: r) mem
    | _ => False) : zG d M pc ls st mem Q := by
  intro p l e R s m args below meth c H locs cells slots Qf E lj C hc hs hH hS hL hl hst hR
  obtain ⟨hx, hb, hml, hown, hts, hfr, hlo, hOn, hscr⟩ := id C
  split at h
  · rename_i x r
    exact lv_l2i hx hb hd (Int32.ofInt_toInt _).symm (hk _ _ _ _ h p l e R s m args below meth c _ _ cells slots Qf E _ C hc hs hH hS hL hl (zoc (zI_of _) (zot hst)) hR)
  · exact h.elim
theorem zs_ladd (hd : decode (zKb (zMk M)) pc = .ok (.ladd, 1)) (hk : ∀ pc ls st mem, k pc ls st mem → zG d M pc ls st mem Q) (h : zlbin st zladd (fun t => k (pc + 1) ls t mem)) : zG d M pc ls st mem Q := by
  intro p l e R s m args below meth c H locs cells slots Qf E lj C hc hs hH hS hL hl hst hR
  obtain ⟨hx, hb, hml, hown, hts, hfr, hlo, hOn, hscr⟩ := id C
  unfold zlbin at h
  split at h
  · rename_i y x r
    have hg := hk _ _ _ _ h p l e R s m args below meth c _ _ cells slots Qf E _ C hc hs hH hS hL hl (zoc (zJ_of _) (zot (zot hst))) hR
    refine lv_ladd hx hb hd ?_
    rw [List.map_cons, show zv E (1, zladd x y) = .long (Int64.ofInt (zladd x y)) from rfl, show Int64.ofInt (zladd x y) = _ from Int64.ofInt_toInt _] at hg
    exact hg
  · exact h.elim
theorem zs_lmul (hd : decode (zKb (zMk M)) pc = .ok (.lmul, 1)) (hk : ∀ pc ls st mem, k pc ls st mem → zG d M pc ls st mem Q) (h : zlbin st zlmul (fun t => k (pc + 1) ls t mem)) : zG d M pc ls st mem Q := by
  intro p l e R s m args below meth c H locs cells slots Qf E lj C hc hs hH hS hL hl hst hR
  obtain ⟨hx, hb, hml, hown, hts, hfr, hlo, hOn, hscr⟩ := id C
  unfold zlbin at h
  split at h
  · rename_i y x r
    have hg := hk _ _ _ _ h p l e R s m args below meth c _ _ cells slots Qf E _ C hc hs hH hS hL hl (zoc (zJ_of _) (zot (zot hst))) hR
    refine lv_lmul hx hb hd ?_
    rw [List.map_cons, show zv E (1, zlmul x y) = .long (Int64.ofInt (zlmul x y)) from rfl, show Int64.ofInt (zlmul x y) = _ from Int64.ofInt_toInt _] at hg
    exact hg
  · exact h.elim
theorem zs_land (hd : decode (zKb (zMk M)) pc = .ok (.land, 1)) (hk : ∀ pc ls st mem, k pc ls st mem → zG d M pc ls st mem Q) (h : zlbin st zland (fun t => k (pc + 1) ls t mem)) : zG d M pc ls st mem Q := by
  intro p l e R s m args below meth c H locs cells slots Qf E lj C hc hs hH hS hL hl hst hR
  obtain ⟨hx, hb, hml, hown, hts, hfr, hlo, hOn, hscr⟩ := id C
  unfold zlbin at h
  split at h
  · rename_i y x r
    have hg := hk _ _ _ _ h p l e R s m args below meth c _ _ cells slots Qf E _ C hc hs hH hS hL hl (zoc (zJ_of _) (zot (zot hst))) hR
    refine lv_land hx hb hd ?_
    rw [List.map_cons, show zv E (1, zland x y) = .long (Int64.ofInt (zland x y)) from rfl, show Int64.ofInt (zland x y) = _ from Int64.ofInt_toInt _] at hg
    exact hg
  · exact h.elim
theorem zs_lor (hd : decode (zKb (zMk M)) pc = .ok (.lor, 1)) (hk : ∀ pc ls st mem, k pc ls st mem → zG d M pc ls st mem Q) (h : zlbin st zlor (fun t => k (pc + 1) ls t mem)) : zG d M pc ls st mem Q := by
  intro p l e R s m args below meth c H locs cells slots Qf E lj C hc hs hH hS hL hl hst hR
  obtain ⟨hx, hb, hml, hown, hts, hfr, hlo, hOn, hscr⟩ := id C
  unfold zlbin at h
  split at h
  · rename_i y x r
    have hg := hk _ _ _ _ h p l e R s m args below meth c _ _ cells slots Qf E _ C hc hs hH hS hL hl (zoc (zJ_of _) (zot (zot hst))) hR
    refine lv_lor hx hb hd ?_
    rw [List.map_cons, show zv E (1, zlor x y) = .long (Int64.ofInt (zlor x y)) from rfl, show Int64.ofInt (zlor x y) = _ from Int64.ofInt_toInt _] at hg
    exact hg
  · exact h.elim
theorem zs_lshl (hd : decode (zKb (zMk M)) pc = .ok (.lshl, 1)) (hk : ∀ pc ls st mem, k pc ls st mem → zG d M pc ls st mem Q) (h : zlsh st zlshl (fun t => k (pc + 1) ls t mem)) : zG d M pc ls st mem Q := by
  intro p l e R s m args below meth c H locs cells slots Qf E lj C hc hs hH hS hL hl hst hR
  obtain ⟨hx, hb, hml, hown, hts, hfr, hlo, hOn, hscr⟩ := id C
  unfold zlsh at h
  split at h
  · rename_i y x r
    exact lv_lshl hx hb hd (Int64.ofInt_toInt _).symm (hk _ _ _ _ h p l e R s m args below meth c _ _ cells slots Qf E _ C hc hs hH hS hL hl (zoc (zJ_of _) (zot (zot hst))) hR)
  · exact h.elim
theorem zs_lshr (hd : decode (zKb (zMk M)) pc = .ok (.lshr, 1)) (hk : ∀ pc ls st mem, k pc ls st mem → zG d M pc ls st mem Q) (h : zlsh st zlshr (fun t => k (pc + 1) ls t mem)) : zG d M pc ls st mem Q := by
  intro p l e R s m args below meth c H locs cells slots Qf E lj C hc hs hH hS hL hl hst hR
  obtain ⟨hx, hb, hml, hown, hts, hfr, hlo, hOn, hscr⟩ := id C
  unfold zlsh at h
  split at h
  · rename_i y x r
    exact lv_lshr hx hb hd (Int64.ofInt_toInt _).symm (hk _ _ _ _ h p l e R s m args below meth c _ _ cells slots Qf E _ C hc hs hH hS hL hl (zoc (zJ_of _) (zot (zot hst))) hR)
  · exact h.elim
theorem zs_lushr (hd : decode (zKb (zMk M)) pc = .ok (.lushr, 1)) (hk : ∀ pc ls st mem, k pc ls st mem → zG d M pc ls st mem Q) (h : zlsh st zlushr (fun t => k (pc + 1) ls t mem)) : zG d M pc ls st mem Q := by
  intro p l e R s m args below meth c H locs cells slots Qf E lj C hc hs hH hS hL hl hst hR
  obtain ⟨hx, hb, hml, hown, hts, hfr, hlo, hOn, hscr⟩ := id C
  unfold zlsh at h
  split at h
  · rename_i y x r
    exact lv_lushr hx hb hd (Int64.ofInt_toInt _).symm (hk _ _ _ _ h p l e R s m args below meth c _ _ cells slots Qf E _ C hc hs hH hS hL hl (zoc (zJ_of _) (zot (zot hst))) hR)
  · exact h.elim
theorem zs_lcmp (hd : decode (zKb (zMk M)) pc = .ok (.lcmp, 1)) (hk : ∀ pc ls st mem, k pc ls st mem → zG d M pc ls st mem Q) (h : match st with
    | (1, y) :: (1, x) :: r => k (pc + 1) ls ((0, zlcmp x y) :: r) mem
    | _ => False) : zG d M pc ls st mem Q := by
  intro p l e R s m args below meth c H locs cells slots Qf E lj C hc hs hH hS hL hl hst hR
  obtain ⟨hx, hb, hml, hown, hts, hfr, hlo, hOn, hscr⟩ := id C
  split at h
  · rename_i y x r
    have hg := hk _ _ _ _ h p l e R s m args below meth c _ _ cells slots Qf E _ C hc hs hH hS hL hl (zoc (zI_of _) (zot (zot hst))) hR
    refine W.lcmp hx hb hd ?_
    rw [List.map_cons, show zv E (0, zlcmp x y) = .int (Int32.ofInt (zlcmp x y)) from rfl, show Int32.ofInt (zlcmp x y) = _ from Int32.ofInt_toInt _] at hg
    exact hg
  · exact h.elim
theorem zs_dup (hd : decode (zKb (zMk M)) pc = .ok (.dup, 1)) (hk : ∀ pc ls st mem, k pc ls st mem → zG d M pc ls st mem Q) (h : match st with
    | (0, x) :: r => k (pc + 1) ls ((0, x) :: (0, x) :: r) mem
    | (2, x) :: r => k (pc + 1) ls ((2, x) :: (2, x) :: r) mem
    | _ => False) : zG d M pc ls st mem Q := by
  intro p l e R s m args below meth c H locs cells slots Qf E lj C hc hs hH hS hL hl hst hR
  obtain ⟨hx, hb, hml, hown, hts, hfr, hlo, hOn, hscr⟩ := id C
  split at h
  · exact lv_dup hx hb hd rfl (hk _ _ _ _ h p l e R s m args below meth c _ _ cells slots Qf E _ C hc hs hH hS hL hl (zoc (zoh hst) hst) hR)
  · exact lv_dup hx hb hd rfl (hk _ _ _ _ h p l e R s m args below meth c _ _ cells slots Qf E _ C hc hs hH hS hL hl (zoc (zoh hst) hst) hR)
  · exact h.elim
theorem zs_dup2 (hd : decode (zKb (zMk M)) pc = .ok (.dup2, 1)) (hk : ∀ pc ls st mem, k pc ls st mem → zG d M pc ls st mem Q) (h : match st with
    | (0, x) :: (2, y) :: r => k (pc + 1) ls ((0, x) :: (2, y) :: (0, x) :: (2, y) :: r) mem
    | _ => False) : zG d M pc ls st mem Q := by
  intro p l e R s m args below meth c H locs cells slots Qf E lj C hc hs hH hS hL hl hst hR
  obtain ⟨hx, hb, hml, hown, hts, hfr, hlo, hOn, hscr⟩ := id C
  split at h
  · exact lv_dup2_11 hx hb hd rfl rfl (hk _ _ _ _ h p l e R s m args below meth c _ _ cells slots Qf E _ C hc hs hH hS hL hl (zoc (zoh hst) (zoc (zoh (zot hst)) hst)) hR)
  · exact h.elim
theorem zs_pop (hd : decode (zKb (zMk M)) pc = .ok (.pop, 1)) (hk : ∀ pc ls st mem, k pc ls st mem → zG d M pc ls st mem Q) (h : match st with
    | (0, _) :: r => k (pc + 1) ls r mem
    | (2, _) :: r => k (pc + 1) ls r mem
    | _ => False) : zG d M pc ls st mem Q := by
  intro p l e R s m args below meth c H locs cells slots Qf E lj C hc hs hH hS hL hl hst hR
  obtain ⟨hx, hb, hml, hown, hts, hfr, hlo, hOn, hscr⟩ := id C
  split at h
  · exact lv_pop hx hb hd rfl (hk _ _ _ _ h p l e R s m args below meth c _ _ cells slots Qf E _ C hc hs hH hS hL hl (zot hst) hR)
  · exact lv_pop hx hb hd rfl (hk _ _ _ _ h p l e R s m args below meth c _ _ cells slots Qf E _ C hc hs hH hS hL hl (zot hst) hR)
  · exact h.elim
end
