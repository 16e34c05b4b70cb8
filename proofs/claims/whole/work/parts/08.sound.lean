section
variable {d : Nat} {M : zMt} {Q : Int → zMem → Prop} {pc : Nat} {ls st : List zV} {mem : zMem} {k : Nat → List zV → List zV → zMem → Prop}
def zlv (E : zEnv) (ls : List zV) : List (Nat × Value) := (List.range ls.length).filterMap (fun i => match ls[i]? with
  | some v => if v.1 < 9 then some (i, zv E v) else none
  | none => none)
theorem zlv_mem {E : zEnv} {ls : List zV} {q : Nat × Value} (h : q ∈ zlv E ls) : ∃ v, ls[q.1]? = some v ∧ v.1 < 9 ∧ q.2 = zv E v := by
  obtain ⟨i, -, hi⟩ := List.mem_filterMap.mp h
  cases hv : ls[i]? with
  | none => simp [hv] at hi
  | some v =>
    simp only [hv] at hi
    split at hi
    · cases hi
      exact ⟨v, hv, by assumption, rfl⟩
    · cases hi
theorem zlv_in {E : zEnv} {ls : List zV} {i : Nat} {v : zV} (h : ls[i]? = some v) (hv : v.1 < 9) : (i, zv E v) ∈ zlv E ls := by
  refine List.mem_filterMap.mpr ⟨i, List.mem_range.mpr (List.getElem?_eq_some_iff.mp h).1, ?_⟩
  simp only [h, hv, if_true]
theorem zLo_has {E : zEnv} {n : Nat} {ls : List zV} {lj : Array Slot} (h : zLo E n ls lj) : lv_has lj n (zlv E ls) := by
  refine ⟨h.1, h.2.2.1, fun q hq => ?_⟩
  obtain ⟨v, h1, h2, h3⟩ := zlv_mem hq
  rw [h3]
  exact h.2.2.2 _ _ h1 h2
theorem zst_spec {ls : List zV} {i : Nat} {v : zV} {k : List zV → Prop} (h : zst ls i v k) : i < ls.length ∧ (∀ j u, i = j + 1 → ls[j]? = some u → u.1 ≠ 1) ∧ k (ls.set i v) := by
  unfold zst at h
  split at h
  · exact h.elim
  · rename_i w hw
    have hlt := (List.getElem?_eq_some_iff.mp hw).1
    split at h
    · exact ⟨hlt, fun j u e => by omega, h⟩
    · rename_i j
      split at h
      · exact h.elim
      · rename_i hne
        refine ⟨hlt, fun j' u e hu he => ?_, h⟩
        have : j' = j := by omega
        subst this
        apply hne
        rw [List.getD_eq_getElem?_getD, hu]
        exact he
theorem zlen_set {ls : List zV} {i n : Nat} {v : zV} (h : ls.length ≤ n) : (ls.set i v).length ≤ n := by rw [List.length_set]; exact h
theorem zok_set {ls : List zV} {i : Nat} {v : zV} (h : ∀ u ∈ ls, zok u) (hv : zok v) : ∀ u ∈ ls.set i v, zok u := by
  intro u hu
  rcases List.mem_or_eq_of_mem_set hu with h1 | h1
  · exact h u h1
  · rw [h1]; exact hv
theorem zLo_st {E : zEnv} {n : Nat} {ls : List zV} {lj lj' : Array Slot} {i : Nat} {v : zV} (hL : zLo E n ls lj) (hi : i < ls.length) (hp : ∀ j u, i = j + 1 → ls[j]? = some u → u.1 ≠ 1) (lv : List (Nat × Value)) (hlv : ∀ q ∈ zlv E ls, q ∈ lv)
    (h : lv_has lj' n ((i, zv E v) :: lv.filter (fun q => !(q.1 == i) && !(q.1 + 1 == i && q.2.category == 2)))) : zLo E n (ls.set i v) lj' := by
  refine ⟨h.1, zlen_set hL.2.1, h.2.1, fun j u hj hu => ?_⟩
  by_cases hji : j = i
  · subst hji
    rw [List.getElem?_set_self hi] at hj
    cases hj
    exact h.2.2 _ List.mem_cons_self
  · rw [List.getElem?_set_ne (Ne.symm hji)] at hj
    refine h.2.2 (j, zv E u) (List.mem_cons_of_mem _ (List.mem_filter.mpr ⟨hlv _ (zlv_in hj hu), ?_⟩))
    have h1 : (j == i) = false := by simp [hji]
    simp only [h1, Bool.not_false, Bool.true_and, Bool.not_eq_true', Bool.and_eq_false_iff]
    by_cases hj1 : j + 1 = i
    · right
      have := hp j u hj1.symm hj
      rw [zv_cat]
      simp only [beq_eq_false_iff_ne, ne_eq]
      unfold zcat
      split
      · rename_i e
        exact absurd e this
      · omega
    · left
      simp [hj1]
theorem zLo_st2 {E : zEnv} {n : Nat} {ls : List zV} {lj lj' : Array Slot} {i : Nat} {x : Int} (hL : zLo E n ls lj) (hi : i + 1 < ls.length) (hp : ∀ j u, i = j + 1 → ls[j]? = some u → u.1 ≠ 1)
    (h : lv_has lj' n ((i, zv E (1, x)) :: (zlv E ls).filter (fun q => !(q.1 == i) && (!(q.1 == i + 1) && !(q.1 + 1 == i && q.2.category == 2))))) : zLo E n ((ls.set i (1, x)).set (i + 1) (9, 0)) lj' := by
  refine ⟨h.1, zlen_set (zlen_set hL.2.1), h.2.1, fun j u hj hu => ?_⟩
  by_cases hj1 : j = i + 1
  · subst hj1
    rw [List.getElem?_set_self (by rw [List.length_set]; exact hi)] at hj
    cases hj
    exact absurd hu (by decide)
  rw [List.getElem?_set_ne (Ne.symm hj1)] at hj
  by_cases hji : j = i
  · subst hji
    rw [List.getElem?_set_self (by omega)] at hj
    cases hj
    exact h.2.2 _ List.mem_cons_self
  · rw [List.getElem?_set_ne (Ne.symm hji)] at hj
    refine h.2.2 (j, zv E u) (List.mem_cons_of_mem _ (List.mem_filter.mpr ⟨zlv_in hj hu, ?_⟩))
    have h1 : (j == i) = false := by simp [hji]
    have h2 : (j == i + 1) = false := by simp [hj1]
    simp only [h1, h2, Bool.not_false, Bool.true_and, Bool.not_eq_true', Bool.and_eq_false_iff]
    by_cases hj1 : j + 1 = i
    · right
      have := hp j u hj1.symm hj
      rw [zv_cat]
      simp only [beq_eq_false_iff_ne, ne_eq]
      unfold zcat
      split
      · rename_i e
        exact absurd e this
      · omega
    · left
      simp [hj1]
theorem zs_istore_n {n : Fin 4} (hd : decode (zKb (zMk M)) pc = .ok (.istore_n n, 1)) (hk : ∀ pc ls st mem, k pc ls st mem → zG d M pc ls st mem Q) (h : match st with
    | (0, x) :: r => ∀ z : Int, z = x → zst ls n.val (0, z) (fun l => k (pc + 1) l r mem)
    | _ => False) : zG d M pc ls st mem Q := by
  intro p l e R s m args below meth c H locs cells slots Qf E lj C hc hs hH hS hL hl hst hR
  obtain ⟨hx, hb, hml, hown, hts, hfr, hlo, hOn, hscr⟩ := id C
  split at h
  · rename_i x r
    obtain ⟨h1, h2, h⟩ := zst_spec (h x rfl)
    exact lv_istore_n hx hb hd rfl (zLo_has hL) (Nat.lt_of_lt_of_le h1 hL.2.1) rfl (fun lj' hj => hk _ _ _ _ h p l e R s m args below meth c _ _ cells slots Qf E _ C hc hs hH hS (zLo_st (v := (0, x)) hL h1 h2 _ (fun _ q => q) hj) (zok_set hl (zoh hst)) (zot hst) hR)
  · exact h.elim
theorem zs_istore {n : Nat} (hd : decode (zKb (zMk M)) pc = .ok (.istore n, 2)) (hk : ∀ pc ls st mem, k pc ls st mem → zG d M pc ls st mem Q) (h : match st with
    | (0, x) :: r => ∀ z : Int, z = x → zst ls n (0, z) (fun l => k (pc + 2) l r mem)
    | _ => False) : zG d M pc ls st mem Q := by
  intro p l e R s m args below meth c H locs cells slots Qf E lj C hc hs hH hS hL hl hst hR
  obtain ⟨hx, hb, hml, hown, hts, hfr, hlo, hOn, hscr⟩ := id C
  split at h
  · rename_i x r
    obtain ⟨h1, h2, h⟩ := zst_spec (h x rfl)
    exact lv_istore hx hb hd (zLo_has hL) (Nat.lt_of_lt_of_le h1 hL.2.1) rfl (fun lj' hj => hk _ _ _ _ h p l e R s m args below meth c _ _ cells slots Qf E _ C hc hs hH hS (zLo_st (v := (0, x)) hL h1 h2 _ (fun _ q => q) hj) (zok_set hl (zoh hst)) (zot hst) hR)
  · exact h.elim
theorem zs_astore_n {n : Fin 4} (hd : decode (zKb (zMk M)) pc = .ok (.astore_n n, 1)) (hk : ∀ pc ls st mem, k pc ls st mem → zG d M pc ls st mem Q) (h : match st with
    | (2, x) :: r => zst ls n.val (2, x) (fun l => k (pc + 1) l r mem)
    | _ => False) : zG d M pc ls st mem Q := by
  intro p l e R s m args below meth c H locs cells slots Qf E lj C hc hs hH hS hL hl hst hR
  obtain ⟨hx, hb, hml, hown, hts, hfr, hlo, hOn, hscr⟩ := id C
  split at h
  · rename_i x r
    obtain ⟨h1, h2, h⟩ := zst_spec h
    exact lv_astore_n hx hb hd rfl (zLo_has hL) (Nat.lt_of_lt_of_le h1 hL.2.1) rfl (fun lj' hj => hk _ _ _ _ h p l e R s m args below meth c _ _ cells slots Qf E _ C hc hs hH hS (zLo_st (v := (2, x)) hL h1 h2 _ (fun _ q => q) hj) (zok_set hl (zoh hst)) (zot hst) hR)
  · exact h.elim
theorem zs_astore {n : Nat} (hd : decode (zKb (zMk M)) pc = .ok (.astore n, 2)) (hk : ∀ pc ls st mem, k pc ls st mem → zG d M pc ls st mem Q) (h : match st with
    | (2, x) :: r => zst ls n (2, x) (fun l => k (pc + 2) l r mem)
    | _ => False) : zG d M pc ls st mem Q := by
  intro p l e R s m args below meth c H locs cells slots Qf E lj C hc hs hH hS hL hl hst hR
  obtain ⟨hx, hb, hml, hown, hts, hfr, hlo, hOn, hscr⟩ := id C
  split at h
  · rename_i x r
    obtain ⟨h1, h2, h⟩ := zst_spec h
    exact lv_astore hx hb hd (zLo_has hL) (Nat.lt_of_lt_of_le h1 hL.2.1) rfl (fun lj' hj => hk _ _ _ _ h p l e R s m args below meth c _ _ cells slots Qf E _ C hc hs hH hS (zLo_st (v := (2, x)) hL h1 h2 _ (fun _ q => q) hj) (zok_set hl (zoh hst)) (zot hst) hR)
  · exact h.elim
theorem zs_lstore_n {n : Fin 4} (hd : decode (zKb (zMk M)) pc = .ok (.lstore_n n, 1)) (hk : ∀ pc ls st mem, k pc ls st mem → zG d M pc ls st mem Q) (h : match st with
    | (1, x) :: r => ∀ z : Int, z = x → zst ls n.val (1, z) (fun l => match l[n.val + 1]? with
      | none => False
      | some _ => k (pc + 1) (l.set (n.val + 1) (9, 0)) r mem)
    | _ => False) : zG d M pc ls st mem Q := by
  intro p l e R s m args below meth c H locs cells slots Qf E lj C hc hs hH hS hL hl hst hR
  obtain ⟨hx, hb, hml, hown, hts, hfr, hlo, hOn, hscr⟩ := id C
  split at h
  · rename_i x r
    obtain ⟨h1, h2, h⟩ := zst_spec (h x rfl)
    split at h
    · exact h.elim
    · rename_i w hw
      have h3 : n.val + 1 < ls.length := by
        have := (List.getElem?_eq_some_iff.mp hw).1
        rw [List.length_set] at this
        exact this
      exact lv_lstore_n hx hb hd rfl (zLo_has hL) (Nat.lt_of_lt_of_le h3 hL.2.1) rfl (fun lj' hj => hk _ _ _ _ h p l e R s m args below meth c _ _ cells slots Qf E _ C hc hs hH hS (zLo_st2 hL h3 h2 hj) (zok_set (zok_set hl (zoh hst)) trivial) (zot hst) hR)
  · exact h.elim
theorem zs_lstore {n : Nat} (hd : decode (zKb (zMk M)) pc = .ok (.lstore n, 2)) (hk : ∀ pc ls st mem, k pc ls st mem → zG d M pc ls st mem Q) (h : match st with
    | (1, x) :: r => ∀ z : Int, z = x → zst ls n (1, z) (fun l => match l[n + 1]? with
      | none => False
      | some _ => k (pc + 2) (l.set (n + 1) (9, 0)) r mem)
    | _ => False) : zG d M pc ls st mem Q := by
  intro p l e R s m args below meth c H locs cells slots Qf E lj C hc hs hH hS hL hl hst hR
  obtain ⟨hx, hb, hml, hown, hts, hfr, hlo, hOn, hscr⟩ := id C
  split at h
  · rename_i x r
    obtain ⟨h1, h2, h⟩ := zst_spec (h x rfl)
    split at h
    · exact h.elim
    · rename_i w hw
      have h3 : n + 1 < ls.length := by
        have := (List.getElem?_eq_some_iff.mp hw).1
        rw [List.length_set] at this
        exact this
      exact lv_lstore hx hb hd (zLo_has hL) (Nat.lt_of_lt_of_le h3 hL.2.1) rfl (fun lj' hj => hk _ _ _ _ h p l e R s m args below meth c _ _ cells slots Qf E _ C hc hs hH hS (zLo_st2 hL h3 h2 hj) (zok_set (zok_set hl (zoh hst)) trivial) (zot hst) hR)
  · exact h.elim
theorem zs_iinc {n : Nat} {c0 : Int} (hd : decode (zKb (zMk M)) pc = .ok (.iinc n c0, 3)) (hk : ∀ pc ls st mem, k pc ls st mem → zG d M pc ls st mem Q) (h : zld 0 ls n (fun v => ∀ z : Int, z = zadd v.2 c0 → zst ls n (0, z) (fun l => k (pc + 3) l st mem))) : zG d M pc ls st mem Q := by
  intro p l e R s m args below meth c H locs cells slots Qf E lj C hc hs hH hS hL hl hst hR
  obtain ⟨hx, hb, hml, hown, hts, hfr, hlo, hOn, hscr⟩ := id C
  obtain ⟨x, hi, h⟩ := zld_spec h
  obtain ⟨h1, h2, h⟩ := zst_spec (h _ rfl)
  have hv := hL.2.2.2 _ _ hi (show 0 < 9 by decide)
  refine lv_iinc (lv := (n, zv E (0, x)) :: zlv E ls) (k := 0) hx hb hd ⟨(zLo_has hL).1, (zLo_has hL).2.1, fun q hq => ?_⟩ rfl (Int32.ofInt_toInt _).symm (Nat.lt_of_lt_of_le h1 hL.2.1) rfl (fun lj' hj => hk _ _ _ _ h p l e R s m args below meth c _ _ cells slots Qf E _ C hc hs hH hS (zLo_st (v := (0, zadd x c0)) hL h1 h2 _ (fun _ q => List.mem_cons_of_mem _ q) hj) (zok_set hl (zI_of _)) hst hR)
  rcases List.mem_cons.mp hq with rfl | hq
  · exact hv
  · exact (zLo_has hL).2.2 q hq
theorem ztgt_eq {pc : Nat} {off : Int} (h : 0 ≤ (pc : Int) + off) : (pc : Int) + off = (ztgt pc off : Int) := by unfold ztgt; omega
theorem zs_goto {off : Int} (hd : decode (zKb (zMk M)) pc = .ok (.goto off, 3)) (ho : 0 ≤ (pc : Int) + off) (hk : ∀ pc ls st mem, k pc ls st mem → zG d M pc ls st mem Q) (h : k (ztgt pc off) ls st mem) : zG d M pc ls st mem Q := by
  intro p l e R s m args below meth c H locs cells slots Qf E lj C hc hs hH hS hL hl hst hR
  obtain ⟨hx, hb, hml, hown, hts, hfr, hlo, hOn, hscr⟩ := id C
  exact lv_goto hx hb hd (ztgt_eq ho) (hk _ _ _ _ h p l e R s m args below meth c _ _ cells slots Qf E _ C hc hs hH hS hL hl hst hR)
theorem zs_icmp {c0 : ClassFile.Cond} {off : Int} (hd : decode (zKb (zMk M)) pc = .ok (.if_icmp c0 off, 3)) (ho : 0 ≤ (pc : Int) + off) (hk : ∀ pc ls st mem, k pc ls st mem → zG d M pc ls st mem Q) (h : match st with
    | (0, y) :: (0, x) :: r => (zcmp c0 x y → k (ztgt pc off) ls r mem) ∧ (¬ zcmp c0 x y → k (pc + 3) ls r mem)
    | _ => False) : zG d M pc ls st mem Q := by
  intro p l e R s m args below meth c H locs cells slots Qf E lj C hc hs hH hS hL hl hst hR
  obtain ⟨hx, hb, hml, hown, hts, hfr, hlo, hOn, hscr⟩ := id C
  split at h
  · rename_i y x r
    obtain ⟨h1, h2⟩ := h
    have hy : zI y := zoh hst
    have hxx : zI x := zoh (zot hst)
    have g1 := fun q => hk _ _ _ _ (h1 q) p l e R s m args below meth c _ _ cells slots Qf E _ C hc hs hH hS hL hl (zot (zot hst)) hR
    have g2 := fun q => hk _ _ _ _ (h2 q) p l e R s m args below meth c _ _ cells slots Qf E _ C hc hs hH hS hL hl (zot (zot hst)) hR
    cases c0
    case eq => exact lv_icmp_eq hx hb hd (ztgt_eq ho) (fun q => g1 ((zeq_i hxx hy).mp q)) (fun q => g2 (fun e => q ((zeq_i hxx hy).mpr e)))
    case ne => exact lv_icmp_ne hx hb hd (ztgt_eq ho) (fun q => g1 (fun e => q ((zeq_i hxx hy).mpr e))) (fun q => g2 (fun e => e ((zeq_i hxx hy).mp q)))
    case lt => exact lv_icmp_lt hx hb hd (ztgt_eq ho) (fun q => g1 ((zlt_i hxx hy).mp q)) (fun q => g2 (fun e => q ((zlt_i hxx hy).mpr e)))
    case ge => exact lv_icmp_ge hx hb hd (ztgt_eq ho) (fun q => g1 ((zle_i hy hxx).mp q)) (fun q => g2 (fun e => q ((zle_i hy hxx).mpr e)))
    case gt => exact lv_icmp_gt hx hb hd (ztgt_eq ho) (fun q => g1 ((zlt_i hy hxx).mp q)) (fun q => g2 (fun e => q ((zlt_i hy hxx).mpr e)))
    case le => exact lv_icmp_le hx hb hd (ztgt_eq ho) (fun q => g1 ((zle_i hxx hy).mp q)) (fun q => g2 (fun e => q ((zle_i hxx hy).mpr e)))
  · exact h.elim
theorem zs_if {c0 : ClassFile.Cond} {off : Int} (hd : decode (zKb (zMk M)) pc = .ok (.ifCond c0 off, 3)) (ho : 0 ≤ (pc : Int) + off) (hk : ∀ pc ls st mem, k pc ls st mem → zG d M pc ls st mem Q) (h : match st with
    | (0, x) :: r => (zcmp c0 x 0 → k (ztgt pc off) ls r mem) ∧ (¬ zcmp c0 x 0 → k (pc + 3) ls r mem)
    | _ => False) : zG d M pc ls st mem Q := by
  intro p l e R s m args below meth c H locs cells slots Qf E lj C hc hs hH hS hL hl hst hR
  obtain ⟨hx, hb, hml, hown, hts, hfr, hlo, hOn, hscr⟩ := id C
  split at h
  · rename_i x r
    obtain ⟨h1, h2⟩ := h
    have hxx : zI x := zoh hst
    have hy : zI 0 := by unfold zI; omega
    have g1 := fun q => hk _ _ _ _ (h1 q) p l e R s m args below meth c _ _ cells slots Qf E _ C hc hs hH hS hL hl (zot hst) hR
    have g2 := fun q => hk _ _ _ _ (h2 q) p l e R s m args below meth c _ _ cells slots Qf E _ C hc hs hH hS hL hl (zot hst) hR
    cases c0
    case eq => exact lv_if_eq hx hb hd (ztgt_eq ho) (fun q => g1 ((zeq_i hxx hy).mp q)) (fun q => g2 (fun e => q ((zeq_i hxx hy).mpr e)))
    case ne => exact lv_if_ne hx hb hd (ztgt_eq ho) (fun q => g1 (fun e => q ((zeq_i hxx hy).mpr e))) (fun q => g2 (fun e => e ((zeq_i hxx hy).mp q)))
    case lt => exact lv_if_lt hx hb hd (ztgt_eq ho) (fun q => g1 ((zlt_i hxx hy).mp q)) (fun q => g2 (fun e => q ((zlt_i hxx hy).mpr e)))
    case ge => exact lv_if_ge hx hb hd (ztgt_eq ho) (fun q => g1 ((zle_i hy hxx).mp q)) (fun q => g2 (fun e => q ((zle_i hy hxx).mpr e)))
    case gt => exact lv_if_gt hx hb hd (ztgt_eq ho) (fun q => g1 ((zlt_i hy hxx).mp q)) (fun q => g2 (fun e => q ((zlt_i hy hxx).mpr e)))
    case le => exact lv_if_le hx hb hd (ztgt_eq ho) (fun q => g1 ((zle_i hxx hy).mp q)) (fun q => g2 (fun e => q ((zle_i hxx hy).mpr e)))
  · exact h.elim
theorem zsw_spec {pc : Nat} {x : Int} {k : Nat → Prop} : ∀ {l : List Int} {lo : Int}, zsw pc x k l lo → ∀ (j : Nat) (o : Int), l[j]? = some o → x = lo + j → k (ztgt pc o)
  | [], lo, _, j, o, h, _ => by simp at h
  | a :: l, lo, h, 0, o, hj, e => by
    have : a = o := by simpa using hj
    subst this
    exact h.1 (by simpa using e)
  | a :: l, lo, h, j + 1, o, hj, e => zsw_spec h.2 j o (by simpa using hj) (by rw [e]; push_cast; omega)
theorem zs_switch {df lo hi : Int} {offs : Array Int} {len : Nat} (hd : decode (zKb (zMk M)) pc = .ok (.tableswitch df lo hi offs, len)) (h0 : 0 ≤ (pc : Int) + df) (h1 : ∀ o ∈ offs, 0 ≤ (pc : Int) + o) (hn : (offs.size : Int) = hi - lo + 1) (hk : ∀ pc ls st mem, k pc ls st mem → zG d M pc ls st mem Q) (h : match st with
    | (0, x) :: r => zsw pc x (fun t => k t ls r mem) offs.toList lo ∧ (x < lo ∨ hi < x → k (ztgt pc df) ls r mem)
    | _ => False) : zG d M pc ls st mem Q := by
  intro p l e R s m args below meth c H locs cells slots Qf E lj C hc hs hH hS hL hl hst hR
  obtain ⟨hx, hb, hml, hown, hts, hfr, hlo, hOn, hscr⟩ := id C
  split at h
  · rename_i x r
    obtain ⟨ha, hb2⟩ := h
    have hxx : zI x := zoh hst
    by_cases hc2 : x < lo ∨ hi < x
    · have h := hb2 hc2
      exact lv_tableOut hx hb hd (by rw [zI_to hxx]; exact hc2) (ztgt_eq h0) (hk _ _ _ _ h p l e R s m args below meth c _ _ cells slots Qf E _ C hc hs hH hS hL hl (zot hst) hR)
    · have hlt : (x - lo).toNat < offs.size := by omega
      have ho : offs[(x - lo).toNat]? = some offs[(x - lo).toNat] := Array.getElem?_eq_getElem hlt
      have h := zsw_spec ha (x - lo).toNat _ (by rw [Array.getElem?_toList]; exact ho) (by omega)
      exact lv_tableIn hx hb hd (by rw [zI_to hxx]; omega) (by rw [zI_to hxx]; omega) (by rw [zI_to hxx]; exact ho) (ztgt_eq (h1 _ (Array.getElem_mem hlt))) (hk _ _ _ _ h p l e R s m args below meth c _ _ cells slots Qf E _ C hc hs hH hS hL hl (zot hst) hR)
  · exact h.elim
end
