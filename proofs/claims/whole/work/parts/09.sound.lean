section
variable {d : Nat} {M : zMt} {Q : Int → zMem → Prop} {pc : Nat} {ls st : List zV} {mem : zMem} {k : Nat → List zV → List zV → zMem → Prop}
theorem zgood_of {w : Cond} (h : w ∈ lw_tbl) (g : goodWord w = true) : w ∈ zgood := List.mem_filter.mpr ⟨h, g⟩
theorem zgood_in {w : Cond} (h : w ∈ zgood) : (w.onTables && w.keeps) = true ∨ ∃ ty, w = .arrayClass ty := good_of_word (List.mem_filter.mp h).2
/-- a class's words and types -/
def zCF (ci : Nat) (q : vw_C) (ty : Nat → FieldType) : Prop := (∀ w ∈ u_ws q.1 q.2.1 q.2.2, w ∈ zgood) ∧ (∀ k, k < q.2.2 → parseFieldDescriptor (q.2.1 k).2.2.1 = some (ty k)) ∧ (∀ a, a < q.2.2 → ∀ b, b < q.2.2 → a ≠ b → (q.2.1 a).2.1 ≠ (q.2.1 b).2.1) ∧
  (∀ k, k < q.2.2 → zfk ci k = 0 → ty k = .int ∧ (q.2.1 k).2.2.2 = false) ∧ (∀ k, k < q.2.2 → zfk ci k = 1 → ty k = .boolean ∧ (q.2.1 k).2.2.2 = false)
/-- a field's row: its class is known, its link's word is there -/
def zFf (own : String) (f : Nat × Nat × Nat × Nat) : Prop := ∃ q ty, vwCl[f.2.1]? = some q ∧ f.2.1 < 100 ∧ f.2.2.1 < q.2.2 ∧ zCF f.2.1 q ty ∧ Cond.fieldLink own f.1 (q.2.1 f.2.2.1).1 (q.2.1 f.2.2.1).2.1 (q.2.1 f.2.2.1).2.2.1 ∈ zgood
theorem zat_mem {α : Type} {l : List (Nat × α)} {k : Nat} {a : α} (h : zat l k = some a) : (k, a) ∈ l := by
  induction l with
  | nil => cases h
  | cons x l ih =>
    obtain ⟨i, b⟩ := x
    unfold zat at h
    split at h
    · rename_i hb
      have := Nat.eq_of_beq_eq_true hb
      subst this
      cases h
      exact List.mem_cons_self
    · exact List.mem_cons_of_mem _ (ih h)
theorem zfs_at (E : zEnv) (k : Nat) (f : Nat → Int) {j : Nat} (hj : j < zln k) : ((List.range (zln k)).map fun j => zfv E k j (f j))[j]? = some (zfv E k j (f j)) := by
  rw [List.getElem?_map, List.getElem?_range hj]
  rfl
theorem zfs_set (E : zEnv) (k : Nat) (f g : Nat → Int) {j : Nat} (hj : j < zln k) (ho : ∀ i, i ≠ j → g i = f i) : ((List.range (zln k)).map fun j => zfv E k j (f j)).set j (zfv E k j (g j)) = (List.range (zln k)).map fun j => zfv E k j (g j) := by
  apply List.ext_getElem?
  intro i
  by_cases hij : i = j
  · subst hij
    rw [zfs_at E k g hj, List.getElem?_set_self]
    rw [List.length_map, List.length_range]
    exact hj
  · rw [List.getElem?_set_ne (Ne.symm hij)]
    by_cases hi : i < zln k
    · rw [zfs_at E k f hi, zfs_at E k g hi, ho i hij]
    · rw [List.getElem?_eq_none, List.getElem?_eq_none] <;> · rw [List.length_map, List.length_range]; omega
theorem zsz {k : Nat} {q : vw_C} (h : zkd k < 100) (hq : vwCl[zkd k]? = some q) : q.2.2 = zln k := by
  have h1 := zsh_cl k (zkd_lt (by omega)) h
  rw [List.getD_eq_getElem?_getD, hq] at h1
  exact h1
theorem zHp_at {E : zEnv} {mem : zMem} {H : Heap} (h : zHp E mem H) {k : Nat} (hk : k < zNC) : (zws E mem)[k]? = some (zEb E + k, zel E k (mem k)) := zws_at E mem hk
theorem zs_getfield {idx : Nat} (hd : decode (zKb (zMk M)) pc = .ok (.getfield idx, 3)) (hF : ∀ f ∈ zMf M, zFf (zMo M) f) (hk : ∀ pc ls st mem, k pc ls st mem → zG d M pc ls st mem Q) (h : match st with
    | (2, h) :: r => match zat (zMf M) idx with
      | some (ci, sl, _) => zkd h.toNat = ci ∧ (match zfk ci sl with
        | 2 => k (pc + 3) ls ((2, Int.ofNat (zrt h.toNat sl)) :: r) mem
        | _ => k (pc + 3) ls ((0, mem h.toNat sl) :: r) mem)
      | none => False
    | _ => False) : zG d M pc ls st mem Q := by
  intro p l e R s m args below meth c H locs cells slots Qf E lj C hc hs hH hS hL hl hst hR
  obtain ⟨hx, hb, hml, hown, hts, hfr, hlo, hOn, hscr⟩ := id C
  split at h
  · rename_i q r
    split at h
    · rename_i ci sl pl hat
      obtain ⟨rfl, h⟩ := h
      obtain ⟨⟨C1, T1, N1⟩, ty, hq1, hq2, hq3, hq4, hq5⟩ := hF _ (zat_mem hat)
      dsimp only at hq1 hq2 hq3 hq4 hq5
      have hN : N1 = zln q.toNat := zsz (q := (C1, T1, N1)) hq2 hq1
      have he := zws_at E mem (zkd_lt (k := q.toNat) (by omega))
      rw [zel_o E _ hq2] at he
      have hv := zfs_at E q.toNat (mem q.toNat) (j := sl) (by rw [← hN]; exact hq3)
      refine va_get (C := C1) (T := T1) (N := N1) (own := zMo M) (ref := (T1 sl).1) hx hb hts hq4.1 hown hOn.1 hH.2 q.toNat he hq1 sl hq3 (hts _ hq5) (fun x hx => hx) hv hd ?_
      unfold zfv
      split at h
      · rename_i h2
        rw [if_pos h2]
        exact hk _ _ _ _ h p l e R s m args below meth c _ _ cells slots Qf E _ C hc hs hH hS hL hl (zoc (show zok (2, _) from trivial) (zot hst)) hR
      · rename_i h2
        rw [if_neg h2]
        exact hk _ _ _ _ h p l e R s m args below meth c _ _ cells slots Qf E _ C hc hs hH hS hL hl (zoc (show zI _ from (hH.1 _ _).2 (by omega)) (zot hst)) hR
    · exact h.elim
  · exact h.elim
theorem zHp_set {E : zEnv} {mem mem' : zMem} {H1 : Heap} {k : Nat} {e : va_E} (hk : k < zNC) (hr : zrg mem') (ho : ∀ a, a ≠ k → mem' a = mem a) (he : e = zel E k (mem' k)) (hP : va_P (zED E) vwCl ((zws E mem).set k (zEb E + k, e)) H1) : zHp E mem' H1 := by
  subst he
  rw [zws_set E mem mem' hk ho] at hP
  exact ⟨hr, hP⟩
theorem zup_s (mem : zMem) (k j : Nat) (v : Int) : zup mem k j v k j = v := by unfold zup; rw [if_pos ⟨rfl, rfl⟩]
theorem zup_n (mem : zMem) (k j : Nat) (v : Int) {i : Nat} (h : i ≠ j) : zup mem k j v k i = mem k i := by unfold zup; rw [if_neg (fun q => h q.2)]
theorem zbool {x : Int} (h : x = 0 ∨ x = 1) : narrow .boolean (.int (Int32.ofInt x)) = .int (Int32.ofInt x) ∧ fits .boolean (.int (Int32.ofInt x)) = true ∧ zI x := by
  rcases h with rfl | rfl
  · exact ⟨by decide +kernel, by decide +kernel, by unfold zI; omega⟩
  · exact ⟨by decide +kernel, by decide +kernel, by unfold zI; omega⟩
theorem zs_putfield {idx : Nat} (hd : decode (zKb (zMk M)) pc = .ok (.putfield idx, 3)) (hF : ∀ f ∈ zMf M, zFf (zMo M) f) (hk : ∀ pc ls st mem, k pc ls st mem → zG d M pc ls st mem Q) (h : match st with
    | (0, x) :: (2, h) :: r => match zat (zMf M) idx with
      | some (ci, sl, _) => zkd h.toNat = ci ∧ (match zfk ci sl with
        | 0 => ∀ mem' : zMem, mem' = zup mem h.toNat sl x → k (pc + 3) ls r mem'
        | 1 => (x = 0 ∨ x = 1) ∧ ∀ mem' : zMem, mem' = zup mem h.toNat sl x → k (pc + 3) ls r mem'
        | _ => False)
      | none => False
    | _ => False) : zG d M pc ls st mem Q := by
  intro p l e R s m args below meth c H locs cells slots Qf E lj C hc hs hH hS hL hl hst hR
  obtain ⟨hx, hb, hml, hown, hts, hfr, hlo, hOn, hscr⟩ := id C
  split at h
  · rename_i x q r
    split at h
    · rename_i ci sl pl hat
      obtain ⟨rfl, h⟩ := h
      obtain ⟨⟨C1, T1, N1⟩, ty, hq1, hq2, hq3, hq4, hq5⟩ := hF _ (zat_mem hat)
      dsimp only at hq1 hq2 hq3 hq4 hq5
      have hN : N1 = zln q.toNat := zsz (q := (C1, T1, N1)) hq2 hq1
      have he := zws_at E mem (zkd_lt (k := q.toNat) (by omega))
      rw [zel_o E _ hq2] at he
      split at h
      · rename_i h2
        have hfi := hq4.2.2.2.1 sl hq3 h2
        refine va_put (C := C1) (T := T1) (N := N1) (own := zMo M) (ref := (T1 sl).1) (ty := .int) hx hb hts hq4.1 ty hq4.2.1 hq4.2.2.1 hown hOn.1 hH.2 (zws_D E mem) hS q.toNat he hq1 sl hq3 (hts _ hq5) (fun x hx => hx) hfi.2 (by rw [hq4.2.1 sl hq3, hfi.1]) rfl rfl (by rw [List.length_map, List.length_range, ← hN]; exact hq3) hd (fun H1 locs1 hP1 _ hS1 => ?_)
        have h := h _ rfl
        have hv : zfv E q.toNat sl x = .int (Int32.ofInt x) := by unfold zfv; rw [if_neg (by omega)]
        refine hk _ _ _ _ h p l e R s m args below meth c _ _ cells slots Qf E _ C hc hs (zHp_set (zkd_lt (by omega)) (zup_rg hH.1 (fun q => by omega) (fun _ => zoh hst)) (zup_o _ _ _ _) ?_ hP1) hS1 hL hl (zot (zot hst)) hR
        rw [zel_o E _ hq2, ← zfs_set E q.toNat (mem q.toNat) (zup mem q.toNat sl x q.toNat) (j := sl) (by rw [← hN]; exact hq3) (fun i hi => zup_n _ _ _ _ hi), zup_s, hv]
        rfl
      · rename_i h2
        have hfi := hq4.2.2.2.2 sl hq3 h2
        obtain ⟨hx01, h⟩ := h
        refine va_put (C := C1) (T := T1) (N := N1) (own := zMo M) (ref := (T1 sl).1) (ty := .boolean) hx hb hts hq4.1 ty hq4.2.1 hq4.2.2.1 hown hOn.1 hH.2 (zws_D E mem) hS q.toNat he hq1 sl hq3 (hts _ hq5) (fun x hx => hx) hfi.2 (by rw [hq4.2.1 sl hq3, hfi.1]) (zbool hx01).1 (zbool hx01).2.1 (by rw [List.length_map, List.length_range, ← hN]; exact hq3) hd (fun H1 locs1 hP1 _ hS1 => ?_)
        have h := h _ rfl
        have hv : zfv E q.toNat sl x = .int (Int32.ofInt x) := by unfold zfv; rw [if_neg (by omega)]
        refine hk _ _ _ _ h p l e R s m args below meth c _ _ cells slots Qf E _ C hc hs (zHp_set (zkd_lt (by omega)) (zup_rg hH.1 (fun q => by omega) (fun _ => zoh hst)) (zup_o _ _ _ _) ?_ hP1) hS1 hL hl (zot (zot hst)) hR
        rw [zel_o E _ hq2, ← zfs_set E q.toNat (mem q.toNat) (zup mem q.toNat sl x q.toNat) (j := sl) (by rw [← hN]; exact hq3) (fun i hi => zup_n _ _ _ _ hi), zup_s, hv]
        rfl
      · exact h.elim
    · exact h.elim
  · exact h.elim
theorem zty (E : zEnv) : (ztys E)[0]? = some (zEc E 100, .int) ∧ (ztys E)[1]? = some (zEc E 101, .byte) ∧ (ztys E)[2]? = some (zEc E 102, .boolean) ∧ (ztys E)[3]? = some (zEc E 103, .long) := ⟨rfl, rfl, rfl, rfl⟩
theorem zs_iaload (hd : decode (zKb (zMk M)) pc = .ok (.iaload, 1)) (hk : ∀ pc ls st mem, k pc ls st mem → zG d M pc ls st mem Q) (h : match st with
    | (0, i) :: (2, a) :: r => (zkd a.toNat = 100 ∧ 0 ≤ i ∧ i < zln a.toNat) ∧ k (pc + 1) ls ((0, mem a.toNat i.toNat) :: r) mem
    | (0, i) :: (4, _) :: r => (0 ≤ i ∧ i < 5) ∧ k (pc + 1) ls ((0, zHV.getD i.toNat 0) :: r) mem
    | (0, i) :: (5, _) :: r => (0 ≤ i ∧ i + 1 < (zMx M).1) ∧ k (pc + 1) ls ((0, (zMx M).2 i.toNat) :: r) mem
    | _ => False) : zG d M pc ls st mem Q := by
  intro p l e R s m args below meth c H locs cells slots Qf E lj C hc hs hH hS hL hl hst hR
  obtain ⟨hx, hb, hml, hown, hts, hfr, hlo, hOn, hscr⟩ := id C
  split at h
  · rename_i i a r
    obtain ⟨⟨hk1, hk2, hk3⟩, h⟩ := h
    have he := zws_at E mem (zkd_lt (k := a.toNat) (by omega))
    rw [zel_i E _ (by omega) (by omega), hk1] at he
    have hi : zI i := zoh hst
    have hg := hk _ _ _ _ h p l e R s m args below meth c _ _ cells slots Qf E _ C hc hs hH hS hL hl (zoc (show zI _ from (hH.1 _ _).2 (by omega)) (zot (zot hst))) hR
    refine va_iald hx hb hOn.1 hH.2 a.toNat 0 he rfl (zin_i hi hk2 hk3) hd ?_
    rw [zcl_i hi]
    exact hg
  · rename_i i a r
    obtain ⟨⟨hk2, hk3⟩, h⟩ := h
    have hi : zI i := zoh hst
    have hz : zI (zHV.getD i.toNat 0) := by
      rcases (show i = 0 ∨ i = 1 ∨ i = 2 ∨ i = 3 ∨ i = 4 by omega) with rfl | rfl | rfl | rfl | rfl <;> (constructor <;> decide +kernel)
    refine va_ti hx hb hOn.2.2.2.2.1 hS (zin_i hi hk2 (by omega)) ?_ hd (hk _ _ _ _ h p l e R s m args below meth c _ _ cells slots Qf E _ C hc hs hH hS hL hl (zoc hz (zot (zot hst))) hR)
    rw [zcl_i hi]
    rfl
  · rename_i i a r
    obtain ⟨⟨hk2, hk3⟩, h⟩ := h
    rcases hscr with e0 | e0
    · rw [e0] at hk3; omega
    rw [e0] at h hk3
    have hi : zI i := zoh hst
    have hg := hk _ _ _ _ h p l e R s m args below meth c _ _ cells slots Qf E _ C hc hs hH hS hL hl (zoc (zI_of _) (zot (zot hst))) hR
    refine va_sld hx hb hOn.2.2.2.2.2.1.1 ?_ hOn.2.2.2.2.2.1.2.2 hS (zin_i hi hk2 (n := zEl E) (by omega)) hd ?_
    · obtain ⟨scr, hscr, -⟩ := hOn.2.2.2.2.2.1.1
      exact (Array.getElem?_eq_some_iff.mp hscr).1
    · rw [zcl_i hi]
      rw [List.map_cons, show zv E (0, (zEx E i.toNat).toInt) = .int (Int32.ofInt (zEx E i.toNat).toInt) from rfl, Int32.ofInt_toInt] at hg
      exact hg
  · exact h.elim
theorem zs_baload (hd : decode (zKb (zMk M)) pc = .ok (.baload, 1)) (hk : ∀ pc ls st mem, k pc ls st mem → zG d M pc ls st mem Q) (h : match st with
    | (0, i) :: (2, a) :: r => ((zkd a.toNat = 101 ∨ zkd a.toNat = 102) ∧ 0 ≤ i ∧ i < zln a.toNat) ∧ k (pc + 1) ls ((0, mem a.toNat i.toNat) :: r) mem
    | _ => False) : zG d M pc ls st mem Q := by
  intro p l e R s m args below meth c H locs cells slots Qf E lj C hc hs hH hS hL hl hst hR
  obtain ⟨hx, hb, hml, hown, hts, hfr, hlo, hOn, hscr⟩ := id C
  split at h
  · rename_i i a r
    obtain ⟨⟨hk1 | hk1, hk2, hk3⟩, h⟩ := h
    · have he := zws_at E mem (zkd_lt (k := a.toNat) (by omega))
      rw [zel_i E _ (by omega) (by omega), hk1] at he
      have hi : zI i := zoh hst
      have hg := hk _ _ _ _ h p l e R s m args below meth c _ _ cells slots Qf E _ C hc hs hH hS hL hl (zoc (show zI _ from (hH.1 _ _).2 (by omega)) (zot (zot hst))) hR
      refine va_bald hx hb hOn.1 hH.2 a.toNat 1 he rfl (zin_i hi hk2 hk3) hd ?_
      rw [zcl_i hi]
      exact hg
    · have he := zws_at E mem (zkd_lt (k := a.toNat) (by omega))
      rw [zel_i E _ (by omega) (by omega), hk1] at he
      have hi : zI i := zoh hst
      have hg := hk _ _ _ _ h p l e R s m args below meth c _ _ cells slots Qf E _ C hc hs hH hS hL hl (zoc (show zI _ from (hH.1 _ _).2 (by omega)) (zot (zot hst))) hR
      refine va_zald hx hb hOn.1 hH.2 a.toNat 2 he rfl (zin_i hi hk2 hk3) hd ?_
      rw [zcl_i hi]
      exact hg
  · exact h.elim
theorem zs_laload (hd : decode (zKb (zMk M)) pc = .ok (.laload, 1)) (hk : ∀ pc ls st mem, k pc ls st mem → zG d M pc ls st mem Q) (h : match st with
    | (0, i) :: (2, a) :: r => (zkd a.toNat = 103 ∧ 0 ≤ i ∧ i < zln a.toNat) ∧ k (pc + 1) ls ((1, mem a.toNat i.toNat) :: r) mem
    | _ => False) : zG d M pc ls st mem Q := by
  intro p l e R s m args below meth c H locs cells slots Qf E lj C hc hs hH hS hL hl hst hR
  obtain ⟨hx, hb, hml, hown, hts, hfr, hlo, hOn, hscr⟩ := id C
  split at h
  · rename_i i a r
    obtain ⟨⟨hk1, hk2, hk3⟩, h⟩ := h
    have he := zws_at E mem (zkd_lt (k := a.toNat) (by omega))
    rw [zel_l E _ hk1] at he
    have hi : zI i := zoh hst
    have hg := hk _ _ _ _ h p l e R s m args below meth c _ _ cells slots Qf E _ C hc hs hH hS hL hl (zoc (show zJ _ from (hH.1 _ _).1 hk1) (zot (zot hst))) hR
    refine va_lald hx hb hOn.1 hH.2 a.toNat 3 he rfl (zin_i hi hk2 hk3) hd ?_
    rw [zcl_i hi]
    exact hg
  · exact h.elim
theorem zs_aaload (hd : decode (zKb (zMk M)) pc = .ok (.aaload, 1)) (hk : ∀ pc ls st mem, k pc ls st mem → zG d M pc ls st mem Q) (h : match st with
    | (0, i) :: (2, a) :: r => (110 ≤ zkd a.toNat ∧ zkd a.toNat ≤ 113 ∧ 0 ≤ i ∧ i < zln a.toNat) ∧ k (pc + 1) ls ((2, Int.ofNat (zrt a.toNat i.toNat)) :: r) mem
    | _ => False) : zG d M pc ls st mem Q := by
  intro p l e R s m args below meth c H locs cells slots Qf E lj C hc hs hH hS hL hl hst hR
  obtain ⟨hx, hb, hml, hown, hts, hfr, hlo, hOn, hscr⟩ := id C
  split at h
  · rename_i i a r
    obtain ⟨⟨hk0, hk1, hk2, hk3⟩, h⟩ := h
    have he := zws_at E mem (zkd_lt (k := a.toNat) (by omega))
    rw [zel_r E _ hk0] at he
    have hi : zI i := zoh hst
    have hin := zin_i hi hk2 hk3
    have hlt : (Int32.ofInt i).toNatClampNeg < zln a.toNat := Nat.not_le.mp fun q => hin (Or.inr q)
    have hg := hk _ _ _ _ h p l e R s m args below meth c _ _ cells slots Qf E _ C hc hs hH hS hL hl (zoc (show zok (2, _) from trivial) (zot (zot hst))) hR
    have key : ∀ (t0 : Nat) (ty : FieldType), (ztys E)[t0]? = some (zEc E (zkd a.toNat), ty) → ty.isReference = true → W p l e R s m args below meth c H locs cells slots Qf (F0 m pc lj ((((0, i) :: (2, a) :: r) : List zV).map (zv E))) := by
      intro t0 ty ht hty
      refine W.aald (v := .ref (zEb E + zrt a.toNat i.toNat)) (ty := ty) (g := F0 m pc lj (.int (Int32.ofInt i) :: .ref (zEb E + a.toNat) :: r.map (zv E))) hx hb (hH.2 _ _ he) ((hOn.1.2 t0 _ ht).1 (zln a.toNat) (fun j => va_rf (some (zEb E + zrt a.toNat j)))) hty (fun q => by cases q) ?_ ?_ rfl rfl hd hg
      · show ¬ (_ ∨ (arrV _ _ _).slots.size ≤ _)
        rw [arrV_size]
        exact hin
      · show (arrV _ _ _).slots[_]? = _
        rw [arrV_read _ _ hlt, zcl_i hi]
        rfl
    rcases (show zkd a.toNat = 110 ∨ zkd a.toNat = 111 ∨ zkd a.toNat = 112 ∨ zkd a.toNat = 113 by omega) with q | q | q | q
    · exact key 4 _ (by rw [q]; rfl) rfl
    · exact key 5 _ (by rw [q]; rfl) rfl
    · exact key 6 _ (by rw [q]; rfl) rfl
    · exact key 7 _ (by rw [q]; rfl) rfl
  · exact h.elim
theorem zupd_i (mem : zMem) (k j : Nat) (x : Int) : upd (fun j => Int32.ofInt (mem k j)) j (Int32.ofInt x) = fun i => Int32.ofInt (zup mem k j x k i) := by
  funext i
  unfold upd
  by_cases h : i = j
  · subst h
    rw [zup_s]
    simp
  · rw [zup_n _ _ _ _ h]
    simp [h]
theorem zupd_l (mem : zMem) (k j : Nat) (x : Int) : vp_updL (fun j => Int64.ofInt (mem k j)) j (Int64.ofInt x) = fun i => Int64.ofInt (zup mem k j x k i) := by
  funext i
  unfold vp_updL
  by_cases h : i = j
  · subst h
    rw [zup_s]
    simp
  · rw [zup_n _ _ _ _ h]
    simp [h]
theorem znar_b {x : Int} (h : -128 ≤ x ∧ x < 128) : vp_nar .byte (Int32.ofInt x) = Int32.ofInt x := by
  rw [vp_nar_byte, ← Int32.toInt_inj, Int8.toInt_toInt32, Int32.toInt_toInt8, zI_to (by unfold zI; omega), Int.bmod_def]
  split <;> omega
theorem znar_z {x : Int} (h : x = 0 ∨ x = 1) : vp_nar .boolean (Int32.ofInt x) = Int32.ofInt x := by
  unfold vp_nar
  rw [(zbool h).1]
theorem zs_iastore (hd : decode (zKb (zMk M)) pc = .ok (.iastore, 1)) (hk : ∀ pc ls st mem, k pc ls st mem → zG d M pc ls st mem Q) (h : match st with
    | (0, x) :: (0, i) :: (2, a) :: r => (zkd a.toNat = 100 ∧ 0 ≤ i ∧ i < zln a.toNat) ∧ ∀ mem' : zMem, mem' = zup mem a.toNat i.toNat x → k (pc + 1) ls r mem'
    | _ => False) : zG d M pc ls st mem Q := by
  intro p l e R s m args below meth c H locs cells slots Qf E lj C hc hs hH hS hL hl hst hR
  obtain ⟨hx, hb, hml, hown, hts, hfr, hlo, hOn, hscr⟩ := id C
  split at h
  · rename_i x i a r
    obtain ⟨⟨hk1, hk2, hk3⟩, h⟩ := h
    have he := zws_at E mem (zkd_lt (k := a.toNat) (by omega))
    rw [zel_i E _ (by omega) (by omega), hk1] at he
    have hi : zI i := zoh (zot hst)
    refine va_iast hx hb hOn.1 hH.2 (zws_D E mem) hS a.toNat 0 he rfl (zin_i hi hk2 hk3) hd (fun H1 locs1 hP1 _ hS1 => ?_)
    have h := h _ rfl
    refine hk _ _ _ _ h p l e R s m args below meth c _ _ cells slots Qf E _ C hc hs (zHp_set (zkd_lt (by omega)) (zup_rg hH.1 (fun q => by omega) (fun _ => zoh hst)) (zup_o _ _ _ _) ?_ hP1) hS1 hL hl (zot (zot (zot hst))) hR
    rw [zel_i E _ (by omega) (by omega), hk1, zcl_i hi, zupd_i]
  · exact h.elim
theorem zs_bastore (hd : decode (zKb (zMk M)) pc = .ok (.bastore, 1)) (hk : ∀ pc ls st mem, k pc ls st mem → zG d M pc ls st mem Q) (h : match st with
    | (0, x) :: (0, i) :: (2, a) :: r => ((zkd a.toNat = 101 ∧ -128 ≤ x ∧ x < 128 ∨ zkd a.toNat = 102 ∧ (x = 0 ∨ x = 1)) ∧ 0 ≤ i ∧ i < zln a.toNat) ∧ ∀ mem' : zMem, mem' = zup mem a.toNat i.toNat x → k (pc + 1) ls r mem'
    | _ => False) : zG d M pc ls st mem Q := by
  intro p l e R s m args below meth c H locs cells slots Qf E lj C hc hs hH hS hL hl hst hR
  obtain ⟨hx, hb, hml, hown, hts, hfr, hlo, hOn, hscr⟩ := id C
  split at h
  · rename_i x i a r
    obtain ⟨⟨⟨hk1, hb8⟩ | ⟨hk1, hb8⟩, hk2, hk3⟩, h⟩ := h
    · have he := zws_at E mem (zkd_lt (k := a.toNat) (by omega))
      rw [zel_i E _ (by omega) (by omega), hk1] at he
      have hi : zI i := zoh (zot hst)
      refine va_bast hx hb hOn.1 hH.2 (zws_D E mem) hS a.toNat 1 he rfl (zin_i hi hk2 hk3) hd (fun H1 locs1 hP1 _ hS1 => ?_)
      have h := h _ rfl
      refine hk _ _ _ _ h p l e R s m args below meth c _ _ cells slots Qf E _ C hc hs (zHp_set (zkd_lt (by omega)) (zup_rg hH.1 (fun q => by omega) (fun _ => zoh hst)) (zup_o _ _ _ _) ?_ hP1) hS1 hL hl (zot (zot (zot hst))) hR
      rw [zel_i E _ (by omega) (by omega), hk1, znar_b hb8, zcl_i hi, zupd_i]
    · have he := zws_at E mem (zkd_lt (k := a.toNat) (by omega))
      rw [zel_i E _ (by omega) (by omega), hk1] at he
      have hi : zI i := zoh (zot hst)
      refine va_zast hx hb hOn.1 hH.2 (zws_D E mem) hS a.toNat 2 he rfl (zin_i hi hk2 hk3) hd (fun H1 locs1 hP1 _ hS1 => ?_)
      have h := h _ rfl
      refine hk _ _ _ _ h p l e R s m args below meth c _ _ cells slots Qf E _ C hc hs (zHp_set (zkd_lt (by omega)) (zup_rg hH.1 (fun q => by omega) (fun _ => zoh hst)) (zup_o _ _ _ _) ?_ hP1) hS1 hL hl (zot (zot (zot hst))) hR
      rw [zel_i E _ (by omega) (by omega), hk1, znar_z hb8, zcl_i hi, zupd_i]
  · exact h.elim
theorem zs_lastore (hd : decode (zKb (zMk M)) pc = .ok (.lastore, 1)) (hk : ∀ pc ls st mem, k pc ls st mem → zG d M pc ls st mem Q) (h : match st with
    | (1, x) :: (0, i) :: (2, a) :: r => (zkd a.toNat = 103 ∧ 0 ≤ i ∧ i < zln a.toNat) ∧ ∀ mem' : zMem, mem' = zup mem a.toNat i.toNat x → k (pc + 1) ls r mem'
    | _ => False) : zG d M pc ls st mem Q := by
  intro p l e R s m args below meth c H locs cells slots Qf E lj C hc hs hH hS hL hl hst hR
  obtain ⟨hx, hb, hml, hown, hts, hfr, hlo, hOn, hscr⟩ := id C
  split at h
  · rename_i x i a r
    obtain ⟨⟨hk1, hk2, hk3⟩, h⟩ := h
    have he := zws_at E mem (zkd_lt (k := a.toNat) (by omega))
    rw [zel_l E _ hk1] at he
    have hi : zI i := zoh (zot hst)
    refine va_last hx hb hOn.1 hH.2 (zws_D E mem) hS a.toNat 3 he rfl (zin_i hi hk2 hk3) hd (fun H1 locs1 hP1 _ hS1 => ?_)
    have h := h _ rfl
    refine hk _ _ _ _ h p l e R s m args below meth c _ _ cells slots Qf E _ C hc hs (zHp_set (zkd_lt (by omega)) (zup_rg hH.1 (fun _ => zoh hst) (fun q => absurd hk1 q)) (zup_o _ _ _ _) ?_ hP1) hS1 hL hl (zot (zot (zot hst))) hR
    rw [zel_l E _ hk1, zcl_i hi, zupd_l]
  · exact h.elim
theorem zofN (n : Nat) : Int32.ofNat n = Int32.ofInt (n : Int) := Int32.ofInt_eq_ofNat.symm
theorem zln_lt : ∀ k, k < zNC → zln k < 2147483648 := by decide +kernel
theorem zs_arraylength (hd : decode (zKb (zMk M)) pc = .ok (.arraylength, 1)) (hk : ∀ pc ls st mem, k pc ls st mem → zG d M pc ls st mem Q) (h : match st with
    | (2, a) :: r => (100 ≤ zkd a.toNat ∧ zkd a.toNat ≤ 103) ∧ k (pc + 1) ls ((0, (zln a.toNat : Int)) :: r) mem
    | (5, _) :: r => (zMx M).1 ≠ 0 ∧ k (pc + 1) ls ((0, ((zMx M).1 : Int) - 1) :: r) mem
    | _ => False) : zG d M pc ls st mem Q := by
  intro p l e R s m args below meth c H locs cells slots Qf E lj C hc hs hH hS hL hl hst hR
  obtain ⟨hx, hb, hml, hown, hts, hfr, hlo, hOn, hscr⟩ := id C
  split at h
  · rename_i a r
    obtain ⟨⟨hk0, hk1⟩, h⟩ := h
    have hlt := zln_lt a.toNat (zkd_lt (by omega))
    have he := zws_at E mem (zkd_lt (k := a.toNat) (by omega))
    have hg := hk _ _ _ _ h p l e R s m args below meth c _ _ cells slots Qf E _ C hc hs hH hS hL hl (zoc (show zI _ by unfold zI; omega) (zot hst)) hR
    have e32 : Int32.ofNat (zln a.toNat) = Int32.ofInt (zln a.toNat : Int) := zofN _
    rcases (show zkd a.toNat = 103 ∨ zkd a.toNat < 103 by omega) with q | q
    · rw [zel_l E _ q] at he
      exact va_alen hx hb hOn.1 hH.2 a.toNat 3 he rfl e32 hd hg
    · rw [zel_i E _ hk0 q] at he
      rcases (show zkd a.toNat = 100 ∨ zkd a.toNat = 101 ∨ zkd a.toNat = 102 by omega) with q | q | q <;> rw [q] at he
      · exact va_alen hx hb hOn.1 hH.2 a.toNat 0 he rfl e32 hd hg
      · exact va_alen hx hb hOn.1 hH.2 a.toNat 1 he rfl e32 hd hg
      · exact va_alen hx hb hOn.1 hH.2 a.toNat 2 he rfl e32 hd hg
  · rename_i a r
    obtain ⟨hk0, h⟩ := h
    rcases hscr with e0 | e0
    · exact absurd e0 hk0
    rw [e0] at h
    have e1 : (((zEl E + 1, fun j => (zEx E j).toInt) : Nat × (Nat → Int)).1 : Int) - 1 = (zEl E : Int) := by show ((zEl E + 1 : Nat) : Int) - 1 = _; omega
    rw [e1] at h
    have hL3 : zEl E ≤ 3072 := hOn.2.2.2.2.2.1.2.1
    have hg := hk _ _ _ _ h p l e R s m args below meth c _ _ cells slots Qf E _ C hc hs hH hS hL hl (zoc (show zI _ by unfold zI; omega) (zot hst)) hR
    refine va_slen hx hb hOn.2.2.2.2.2.1.1 ?_ hOn.2.2.2.2.2.1.2.2 hS hd (by rw [zofN]; exact hg)
    obtain ⟨scr, hscr, -⟩ := hOn.2.2.2.2.2.1.1
    exact (Array.getElem?_eq_some_iff.mp hscr).1
  · exact h.elim
end
