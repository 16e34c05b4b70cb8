section
variable {d : Nat} {M : zMt} {Q : Int → zMem → Prop} {pc : Nat} {ls st : List zV} {mem : zMem} {k : Nat → List zV → List zV → zMem → Prop}
/-- a constant's row -/
def zNf (own : String) (c : Nat × Nat × Int × Nat) : Prop := match c with
  | (i, 0, v, _) => Cond.constant own i (Int32.ofInt v) ∈ zgood ∧ zI v
  | (i, 1, v, _) => Cond.constantLong own i (Int64.ofInt v) ∈ zgood ∧ zJ v
  | (i, 3, v, _) => own = "OtherDoor$Tape" ∧ v.toNat < 8 ∧ zSi.getD v.toNat 0 = i
  | (i, 4, _, _) => Cond.fieldLink own i "OtherDoor$Rounds" "HAVING" "[I" ∈ zgood
  | _ => False
theorem zs_ldc_w {idx : Nat} (hd : decode (zKb (zMk M)) pc = .ok (.ldc_w idx, 3)) (hN : ∀ c ∈ zMn M, zNf (zMo M) c) (hk : ∀ pc ls st mem, k pc ls st mem → zG d M pc ls st mem Q) (h : match zat (zMn M) idx with
    | some (0, v, _) => k (pc + 3) ls ((0, v) :: st) mem
    | _ => False) : zG d M pc ls st mem Q := by
  intro p l e R s m args below meth c H locs cells slots Qf E lj C hc hs hH hS hL hl hst hR
  obtain ⟨hx, hb, hml, hown, hts, hfr, hlo, hOn, hscr⟩ := id C
  split at h
  · rename_i v pl hat
    obtain ⟨h1, h2⟩ := hN _ (zat_mem hat)
    exact lv_ldcw hx hb hown (hts _ h1) hd (hk _ _ _ _ h p l e R s m args below meth c _ _ cells slots Qf E _ C hc hs hH hS hL hl (zoc h2 hst) hR)
  · exact h.elim
theorem zs_ldc2_w {idx : Nat} (hd : decode (zKb (zMk M)) pc = .ok (.ldc2_w idx, 3)) (hN : ∀ c ∈ zMn M, zNf (zMo M) c) (hk : ∀ pc ls st mem, k pc ls st mem → zG d M pc ls st mem Q) (h : match zat (zMn M) idx with
    | some (1, v, _) => k (pc + 3) ls ((1, v) :: st) mem
    | _ => False) : zG d M pc ls st mem Q := by
  intro p l e R s m args below meth c H locs cells slots Qf E lj C hc hs hH hS hL hl hst hR
  obtain ⟨hx, hb, hml, hown, hts, hfr, hlo, hOn, hscr⟩ := id C
  split at h
  · rename_i v pl hat
    obtain ⟨h1, h2⟩ := hN _ (zat_mem hat)
    exact lv_ldc2 hx hb hown (hts _ h1) hd (hk _ _ _ _ h p l e R s m args below meth c _ _ cells slots Qf E _ C hc hs hH hS hL hl (zoc h2 hst) hR)
  · exact h.elim
theorem zs_ldc {idx : Nat} (hd : decode (zKb (zMk M)) pc = .ok (.ldc idx, 2)) (hN : ∀ c ∈ zMn M, zNf (zMo M) c) (hk : ∀ pc ls st mem, k pc ls st mem → zG d M pc ls st mem Q) (h : match zat (zMn M) idx with
    | some (3, v, _) => k (pc + 2) ls ((3, v) :: st) mem
    | _ => False) : zG d M pc ls st mem Q := by
  intro p l e R s m args below meth c H locs cells slots Qf E lj C hc hs hH hS hL hl hst hR
  obtain ⟨hx, hb, hml, hown, hts, hfr, hlo, hOn, hscr⟩ := id C
  split at h
  · rename_i v pl hat
    obtain ⟨h1, h2, h3⟩ := hN _ (zat_mem hat)
    have hr := hOn.2.2.1 _ h2
    rw [h3, ← h1] at hr
    exact va_ldcS hx hb hown hr hd (hk _ _ _ _ h p l e R s m args below meth c _ _ cells slots Qf E _ C hc hs hH hS hL hl (zoc (show zok (3, _) from trivial) hst) hR)
  · exact h.elim
theorem zs_getstatic {idx : Nat} (hd : decode (zKb (zMk M)) pc = .ok (.getstatic idx, 3)) (hN : ∀ c ∈ zMn M, zNf (zMo M) c) (hk : ∀ pc ls st mem, k pc ls st mem → zG d M pc ls st mem Q) (h : match zat (zMn M) idx with
    | some (4, _, _) => k (pc + 3) ls ((4, 0) :: st) mem
    | _ => False) : zG d M pc ls st mem Q := by
  intro p l e R s m args below meth c H locs cells slots Qf E lj C hc hs hH hS hL hl hst hR
  obtain ⟨hx, hb, hml, hown, hts, hfr, hlo, hOn, hscr⟩ := id C
  split at h
  · rename_i v pl hat
    have h1 := hN _ (zat_mem hat)
    exact va_gets hx hb hOn.2.2.2.1 hS hown (hts _ h1) (fun _ h => h) hd (hk _ _ _ _ h p l e R s m args below meth c _ _ cells slots Qf E _ C hc hs hH hS hL hl (zoc (show zok (4, _) from trivial) hst) hR)
  · exact h.elim
theorem zXt.kept {E : zEnv} {U : State} {H H1 : Heap} (h : zXt E U H) (hq : ∀ a : Nat, a < H.size → ¬ zA E a → H1[a]? = H[a]?) : zXt E U H1 := by
  obtain ⟨h1, h2, h3, h4, ⟨h5, h6, h7⟩, h8, h9⟩ := h
  refine ⟨h1.kept hq, h2, h3.kept hq, h4.kept hq, ⟨h5.kept ?_, h6, h7⟩, h8.kept hq, h9.kept hq⟩
  obtain ⟨scr, hs, -⟩ := h5
  exact hq _ (Array.getElem?_eq_some_iff.mp hs).1 h7
theorem zXt.warm {E : zEnv} {s U : State} {H : Heap} (hW : s.WarmedH U.vm) (h : zXt E s H) : zXt E U H := by
  obtain ⟨h1, h2, h3, h4, ⟨h5, h6, h7⟩, h8, h9⟩ := h
  exact ⟨h1.moved hW.alike, fun i hi => (h2 i hi).warm hW, h3.moved hW.alike, h4.moved hW.alike, ⟨h5.moved hW.alike, h6, h7⟩, h8.moved hW.alike, h9.moved hW.alike⟩
theorem zXt.same {E : zEnv} {s U : State} {H : Heap} (hv : U.vm = s.vm) (h : zXt E s H) : zXt E U H := by
  obtain ⟨h1, h2, h3, h4, ⟨h5, h6, h7⟩, h8, h9⟩ := h
  have ha : s.vm.Alike U.vm := by rw [hv]; exact Vm.Alike.refl _
  exact ⟨h1.moved ha, fun i hi => (h2 i hi).same hv, h3.moved ha, h4.moved ha, ⟨h5.moved ha, h6, h7⟩, h8.moved ha, h9.moved ha⟩
theorem zPc_blind (E : zEnv) (av : List zV) (mem : zMem) : FrameBlind (zPc E av mem) := by
  intro a U g mk h
  obtain ⟨h1, h2, ⟨h3, h4⟩, h5⟩ := h
  exact ⟨h1, h2, ⟨va_K.moved (u := U) (U := U.calling g mk a) (Vm.Alike.refl U.vm) h3, zXt.same (s := U) (U := U.calling g mk a) rfl h4⟩, h5⟩
theorem zPc_at {E : zEnv} {av : List zV} {mem : zMem} {s U : State} {H : Heap} {locs : List Loc} (hav : ∀ x ∈ av, zok x) (hOn : zOn E s) (hH : zHp E mem H) (hS : va_S (zA E) s.heap H locs) (hU : U.heap = H) (hW : s.WarmedH U.vm) : zPc E av mem (av.map (zv E)).toArray U :=
  ⟨rfl, hav, ⟨va_K.moved hW.alike hOn.1, by rw [hU]; exact (hOn.2.kept hS.2.1).warm hW⟩, by rw [hU]; exact hH⟩
theorem zcall {p : Program} {l : Launch} {e : Env} {R : Room} {s : State} {m : MethodId} {args : Array Value} {below : List Frame} {meth : Method} {c : Code} {H : Heap} {locs : List Loc} {cells slots : Nat} {Qf : State → Prop} {E : zEnv} {r : Option FieldType} {Q' : Int → zMem → Prop} {a : Array Value} {lj : Array Slot} {stJ rest : List Value}
    (hr : va_Run p l e R s m args below meth c H locs cells slots 0 0 (F0 m pc lj stJ) rest (zQc E r Q' a) (zA E)) (hS : va_S (zA E) s.heap H locs)
    (kk : ∀ (x : Int) (mem' : zMem) (H1 : Heap) (locs1 : List Loc), zok (zrtag r, x) → Q' x mem' → zHp E mem' H1 → va_S (zA E) s.heap H1 locs1 → W p l e R s m args below meth c H1 locs1 cells slots Qf (F0 m (pc + 3) lj ((zret E r x).toList ++ rest))) : W p l e R s m args below meth c H locs cells slots Qf (F0 m pc lj stJ) := by
  intro T hT X
  obtain ⟨v, st₀, t, T', L, h0, X', hL, e1, e2, ⟨⟨x, mem', hv, hok, hq, hh⟩, hz, hk⟩, st⟩ := hr T hT X
  cases hv
  rw [h0] at hz hk
  obtain ⟨t2, a1, b1⟩ := kk x mem' T'.heap (locs ++ L) hok hq (by rw [e1]; exact hh)
    ⟨Nat.le_trans hS.1 (by rw [e1]; exact hz), fun q h1 h2 => by rw [e1, hk q (Nat.lt_of_lt_of_le h1 hS.1) h2]; exact hS.2.1 q h1 h2, fun q hq => by
      rcases List.mem_append.mp hq with h | h
      · exact hS.2.2 q h
      · exact hL q h⟩ T' rfl X'
  exact ⟨t2, st t2 a1, b1⟩
theorem ztk_spec : ∀ {n : Nat} {st acc av r : List zV}, ztk n st acc = some (av, r) → ∃ u, u.length = n ∧ st = u ++ r ∧ av = u.reverse ++ acc
  | 0, st, acc, av, r, h => by
    unfold ztk at h
    cases h
    exact ⟨[], rfl, rfl, rfl⟩
  | n + 1, [], acc, av, r, h => by unfold ztk at h; cases h
  | n + 1, v :: st, acc, av, r, h => by
    unfold ztk at h
    obtain ⟨u, h1, h2, h3⟩ := ztk_spec h
    exact ⟨v :: u, by simp [h1], by rw [h2]; rfl, by rw [h3]; simp⟩
theorem zrm_spec {r : List zV} {P : Prop} (h : zrm r P) : zsm r ≤ 8 ∧ P := by
  unfold zrm at h
  split at h
  · rename_i hb
    exact ⟨Nat.le_of_ble_eq_true hb, h⟩
  · exact h.elim
theorem zsm_eq (E : zEnv) : ∀ r : List zV, ((r.map (zv E)).map fun v => v.category).sum = zsm r
  | [] => rfl
  | v :: r => by
    obtain ⟨t, x⟩ := v
    rw [List.map_cons, List.map_cons, List.sum_cons, zsm_eq E r, zv_cat]
    rfl
theorem zpsh_eq (E : zEnv) (r : Option FieldType) (x : Int) (rest : List zV) : (zpsh (zrtag r) x rest).map (zv E) = (zret E r x).toList ++ rest.map (zv E) := by
  cases r with
  | none => rfl
  | some t => cases t <;> rfl
theorem zpsh_ok {r : Option FieldType} {x : Int} {rest : List zV} (h : zok (zrtag r, x)) (hr : ∀ v ∈ rest, zok v) : ∀ v ∈ zpsh (zrtag r) x rest, zok v := by
  cases r with
  | none => exact hr
  | some t => cases t <;> exact zoc h hr
/-- a call's row: kind, words -/
def zMf1 (own : String) (c : Nat × zKey × Nat × Nat × List Nat) : Prop :=
  (c.2.2.1 ≠ 101 → (Cond.code (zKy c.2.1) (zKb c.2.1) (zKl c.2.1) (zKr c.2.1) ∈ zgood ∧ Cond.methodLink own c.1 (zKy c.2.1) ∈ zgood ∧ Cond.initialized (zKy c.2.1).cls ∈ zgood ∧ (zKy c.2.1).cls ≠ "java/lang/invoke/MethodHandle" ∧ (zKy c.2.1).cls ≠ "java/lang/invoke/VarHandle" ∧ (parseMethodDescriptor (zKy c.2.1).desc).map (fun d => d.parameters.length) = some c.2.2.2.1 ∧ zKl c.2.1 ≤ 81)) ∧
  (c.2.2.1 < 100 → (∃ q, vwCl[c.2.2.1]? = some q ∧ q.1 = (zKy c.2.1).cls) ∧ Cond.instanceMethod (zKy c.2.1) ∈ zgood ∧ Cond.selects (zKy c.2.1).cls (zKy c.2.1) (zKy c.2.1) ∈ zgood) ∧
  (c.2.2.1 = 102 → (zKy c.2.1).cls = "java/lang/String" ∧ Cond.instanceMethod (zKy c.2.1) ∈ zgood ∧ Cond.selects (zKy c.2.1).cls (zKy c.2.1) (zKy c.2.1) ∈ zgood) ∧
  (c.2.2.1 = 100 → Cond.static (zKy c.2.1) ∈ zgood) ∧
  (c.2.2.1 = 101 → Cond.methodLink own c.1 arraycopyName ∈ zgood ∧ Cond.native arraycopyName ∈ zgood ∧ Cond.static arraycopyName ∈ zgood ∧ Cond.initialized "java/lang/System" ∈ zgood)
theorem zgoodW {own : String} {idx : Nat} {K : zKey} (h1 : Cond.code (zKy K) (zKb K) (zKl K) (zKr K) ∈ zgood) (h2 : Cond.methodLink own idx (zKy K) ∈ zgood) (h3 : Cond.instanceMethod (zKy K) ∈ zgood) (h4 : Cond.selects (zKy K).cls (zKy K) (zKy K) ∈ zgood) (h5 : Cond.initialized (zKy K).cls ∈ zgood) : GoodIn zgood (wsV own idx (zKy K).cls (zKy K) (zW K)) := by
  intro w hw
  have : w ∈ zgood := by
    unfold wsV zW at hw
    simp only [List.mem_append, List.mem_cons, List.not_mem_nil, or_false] at hw
    rcases hw with (rfl | rfl | rfl | rfl) | rfl | hw <;> assumption
  exact ⟨this, zgood_in this⟩
theorem zgoodS {own : String} {idx : Nat} {K : zKey} (h1 : Cond.code (zKy K) (zKb K) (zKl K) (zKr K) ∈ zgood) (h2 : Cond.methodLink own idx (zKy K) ∈ zgood) (h3 : Cond.static (zKy K) ∈ zgood) (h5 : Cond.initialized (zKy K).cls ∈ zgood) : GoodIn zgood (va_wsS own idx (zKy K) (zW K)) := by
  intro w hw
  have : w ∈ zgood := by
    unfold va_wsS zW at hw
    simp only [List.mem_append, List.mem_cons, List.not_mem_nil, or_false] at hw
    rcases hw with (rfl | rfl | rfl) | rfl | hw <;> assumption
  exact ⟨this, zgood_in this⟩
theorem zroom {R : Room} {e ml : Nat} (h1 : e + 1 ≤ R.frames) (h2 : 100 * (e + 1) ≤ R.locals) (h3 : ml ≤ 81) : (zRm e).frames + 1 ≤ R.frames ∧ 8 + (ml + 11) + (zRm e).locals ≤ R.locals := by
  refine ⟨h1, ?_⟩
  show 8 + (ml + 11) + 100 * e ≤ R.locals
  omega
theorem zs_invokevirtual {idx : Nat} (hd : decode (zKb (zMk M)) pc = .ok (.invokevirtual idx, 3)) (hF : ∀ c ∈ zMm M, zMf1 (zMo M) c) (hk : ∀ pc ls st mem, k pc ls st mem → zG d M pc ls st mem Q) (h : match zat (zMm M) idx with
    | some (K, kd, n, _) => match ztk (n + 1) st [] with
      | some ((2, h) :: as, r) => match Nat.blt kd 100 with
        | true => zkd h.toNat = kd ∧ zrm r (zCk d K ((2, h) :: as) mem (fun x mem' => k (pc + 3) ls (zpsh (zrtag (zKr K)) x r) mem'))
        | false => False
      | some ((3, h) :: as, r) => (kd = 102 ∧ 0 ≤ h ∧ h < 8) ∧ zrm r (zCk d K ((3, h) :: as) mem (fun x mem' => k (pc + 3) ls (zpsh (zrtag (zKr K)) x r) mem'))
      | _ => False
    | none => False) : zG d M pc ls st mem Q := by
  intro p l e R s m args below meth c H locs cells slots Qf E lj C hc hs hH hS hL hl hst hR
  obtain ⟨hx, hb, hml, hown, hts, hfr, hlo, hOn, hscr⟩ := id C
  split at h
  · rename_i K kd n pl hat
    obtain ⟨hA, hV, hT, -, -⟩ := hF _ (zat_mem hat)
    dsimp only at hA hV hT
    split at h
    · rename_i q as r htk
      split at h
      rotate_left
      · exact h.elim
      rename_i hbl
      have hk0 : kd < 100 := Nat.le_of_ble_eq_true hbl
      obtain ⟨hkd, h⟩ := h
      replace hA := hA (by omega)
      obtain ⟨⟨⟨C1, T1, N1⟩, hV0, hV1⟩, hV2, hV3⟩ := hV hk0
      have hrecv : ∃ cellB : Cell, H[zEb E + q.toNat]? = some cellB ∧ cellB.vm.isStatics = false ∧ s.vm.findClass (zKy K).cls = some cellB.cls := by
        have he := zws_at E mem (zkd_lt (k := q.toNat) (by omega))
        rw [zel_o E _ (by omega)] at he
        have hcl : vwCl[zkd q.toNat]? = some (C1, T1, N1) := by rw [hkd]; exact hV0
        obtain ⟨cell, g1, g2, g3⟩ := va_recv hOn.1 hH.2 (ci := zkd q.toNat) (q0 := q.toNat) hcl he
        exact ⟨cell, g1, g2, by rw [← hV1]; exact g3⟩
      obtain ⟨hsm, h⟩ := zrm_spec h
      match d, h, hfr, hlo, hk, C with
      | 0, h, _, _, _, _ => exact h.elim
      | e0 + 1, h, hfr, hlo, hk, C =>
        have hM := h l E e0 (Nat.le_refl _)
        obtain ⟨u, hu1, hu2, hu3⟩ := ztk_spec htk
        rw [List.append_nil] at hu3
        have hu4 : u = as.reverse ++ [(2, q)] := by rw [← List.reverse_reverse (as := u), ← hu3]; simp
        have hlen : as.length = n := by
          rw [hu4] at hu1
          simpa using hu1
        have hav : ∀ v ∈ (((2, q) :: as) : List zV), zok v := fun v hv => hst v (by rw [hu2, hu4]; simp only [List.mem_append, List.mem_reverse, List.mem_cons, List.not_mem_nil, or_false] at hv ⊢; rcases hv with rfl | hv <;> simp [*])
        have hor : ∀ v ∈ r, zok v := fun v hv => hst v (by rw [hu2]; exact List.mem_append_right _ hv)
        refine zcall (va_runV (C := (zKy K).cls) (As := as.map (zv E)) (rest := r.map (zv E)) ⟨hx, hb, hml, hown, hts⟩ hM (cwV n hts (zgoodW hA.1 hA.2.1 hV2 hV3 hA.2.2.1) rfl rfl rfl ⟨rfl, hA.2.2.2.1, hA.2.2.2.2.1, hA.2.2.2.2.2.1⟩ (zroom hfr hlo hA.2.2.2.2.2.2)) ⟨zPc_blind _ _ _, hrecv, fun U hU hW => zPc_at hav hOn hH hS hU hW⟩ rfl (by rw [List.length_map]; exact hlen) hL.1 ?_ (lv_room (by rw [zsm_eq]; exact hsm)) hd ⟨hc, hs⟩) hS (fun x mem' H1 locs1 hok hq hH1 hS1 => ?_)
        · show (st.map (zv E)) = _
          rw [hu2, hu4]
          simp [zv]
        · have hg := hk _ _ _ _ hq p l e R s m args below meth c _ _ cells slots Qf E _ C hc hs hH1 hS1 hL hl (zpsh_ok hok hor) hR
          rw [zpsh_eq] at hg
          exact hg
    · rename_i q as r htk
      obtain ⟨⟨hk0, hq0, hq8⟩, h⟩ := h
      replace hA := hA (by omega)
      obtain ⟨hV1, hV2, hV3⟩ := hT hk0
      have hrecv : ∃ cellB : Cell, H[zEk E q.toNat]? = some cellB ∧ cellB.vm.isStatics = false ∧ s.vm.findClass (zKy K).cls = some cellB.cls := by
        rw [hV1]
        exact vk_recv hOn.2.1 (by omega) hS
      obtain ⟨hsm, h⟩ := zrm_spec h
      match d, h, hfr, hlo, hk, C with
      | 0, h, _, _, _, _ => exact h.elim
      | e0 + 1, h, hfr, hlo, hk, C =>
        have hM := h l E e0 (Nat.le_refl _)
        obtain ⟨u, hu1, hu2, hu3⟩ := ztk_spec htk
        rw [List.append_nil] at hu3
        have hu4 : u = as.reverse ++ [(3, q)] := by rw [← List.reverse_reverse (as := u), ← hu3]; simp
        have hlen : as.length = n := by
          rw [hu4] at hu1
          simpa using hu1
        have hav : ∀ v ∈ (((3, q) :: as) : List zV), zok v := fun v hv => hst v (by rw [hu2, hu4]; simp only [List.mem_append, List.mem_reverse, List.mem_cons, List.not_mem_nil, or_false] at hv ⊢; rcases hv with rfl | hv <;> simp [*])
        have hor : ∀ v ∈ r, zok v := fun v hv => hst v (by rw [hu2]; exact List.mem_append_right _ hv)
        refine zcall (va_runV (C := (zKy K).cls) (As := as.map (zv E)) (rest := r.map (zv E)) ⟨hx, hb, hml, hown, hts⟩ hM (cwV n hts (zgoodW hA.1 hA.2.1 hV2 hV3 hA.2.2.1) rfl rfl rfl ⟨rfl, hA.2.2.2.1, hA.2.2.2.2.1, hA.2.2.2.2.2.1⟩ (zroom hfr hlo hA.2.2.2.2.2.2)) ⟨zPc_blind _ _ _, hrecv, fun U hU hW => zPc_at hav hOn hH hS hU hW⟩ rfl (by rw [List.length_map]; exact hlen) hL.1 ?_ (lv_room (by rw [zsm_eq]; exact hsm)) hd ⟨hc, hs⟩) hS (fun x mem' H1 locs1 hok hq hH1 hS1 => ?_)
        · show (st.map (zv E)) = _
          rw [hu2, hu4]
          simp [zv]
        · have hg := hk _ _ _ _ hq p l e R s m args below meth c _ _ cells slots Qf E _ C hc hs hH1 hS1 hL hl (zpsh_ok hok hor) hR
          rw [zpsh_eq] at hg
          exact hg
    · exact h.elim
  · exact h.elim
theorem zs_invokestatic {idx : Nat} (hd : decode (zKb (zMk M)) pc = .ok (.invokestatic idx, 3)) (hF : ∀ c ∈ zMm M, zMf1 (zMo M) c) (hk : ∀ pc ls st mem, k pc ls st mem → zG d M pc ls st mem Q) (h : match zat (zMm M) idx with
    | some (K, 100, n, _) => match ztk n st [] with
      | some (as, r) => zrm r (zCk d K as mem (fun x mem' => k (pc + 3) ls (zpsh (zrtag (zKr K)) x r) mem'))
      | none => False
    | some (_, 101, _, _) => match st with
      | (0, n) :: (0, dp) :: (2, t) :: (0, sp) :: (2, a) :: r => (zkd a.toNat = 100 ∧ zkd t.toNat = 100 ∧ 0 ≤ sp ∧ 0 ≤ dp ∧ 0 ≤ n ∧ sp + n ≤ zln a.toNat ∧ dp + n ≤ zln t.toNat) ∧ zrm r (d ≠ 0 ∧ ∀ mem' : zMem, mem' = zcp mem a.toNat sp.toNat t.toNat dp.toNat n.toNat → k (pc + 3) ls r mem')
      | _ => False
    | _ => False) : zG d M pc ls st mem Q := by
  intro p l e R s m args below meth c H locs cells slots Qf E lj C hc hs hH hS hL hl hst hR
  obtain ⟨hx, hb, hml, hown, hts, hfr, hlo, hOn, hscr⟩ := id C
  split at h
  · rename_i K n pl hat
    obtain ⟨hA, -, -, hT, -⟩ := hF _ (zat_mem hat)
    dsimp only at hA hT
    replace hA := hA (by decide)
    replace hT := hT rfl
    split at h
    · rename_i as r htk
      obtain ⟨hsm, h⟩ := zrm_spec h
      match d, h, hfr, hlo, hk, C with
      | 0, h, _, _, _, _ => exact h.elim
      | e0 + 1, h, hfr, hlo, hk, C =>
        have hM := h l E e0 (Nat.le_refl _)
        obtain ⟨u, hu1, hu2, hu3⟩ := ztk_spec htk
        rw [List.append_nil] at hu3
        have hu4 : u = as.reverse := by rw [← List.reverse_reverse (as := u), ← hu3]
        have hlen : as.length = n := by
          rw [hu4] at hu1
          simpa using hu1
        have hav : ∀ v ∈ as, zok v := fun v hv => hst v (by rw [hu2, hu4]; exact List.mem_append_left _ (List.mem_reverse.mpr hv))
        have hor : ∀ v ∈ r, zok v := fun v hv => hst v (by rw [hu2]; exact List.mem_append_right _ hv)
        refine zcall (va_runS (As := as.map (zv E)) (rest := r.map (zv E)) ⟨hx, hb, hml, hown, hts⟩ hM (va_cwS n hts (zgoodS hA.1 hA.2.1 hT hA.2.2.1) rfl rfl rfl ⟨hA.2.2.2.1, hA.2.2.2.2.1, hA.2.2.2.2.2.1⟩ (zroom hfr hlo hA.2.2.2.2.2.2)) ⟨zPc_blind _ _ _, fun U hU hW => zPc_at hav hOn hH hS hU hW⟩ rfl (by rw [List.length_map]; exact hlen) hL.1 ?_ (lv_room (by rw [zsm_eq]; exact hsm)) hd ⟨hc, hs⟩) hS (fun x mem' H1 locs1 hok hq hH1 hS1 => ?_)
        · show (st.map (zv E)) = _
          rw [hu2, hu4]
          simp
        · have hg := hk _ _ _ _ hq p l e R s m args below meth c _ _ cells slots Qf E _ C hc hs hH1 hS1 hL hl (zpsh_ok hok hor) hR
          rw [zpsh_eq] at hg
          exact hg
    · exact h.elim
  · rename_i K n pl hat
    obtain ⟨-, -, -, -, hT⟩ := hF _ (zat_mem hat)
    dsimp only at hT
    obtain ⟨hT1, hT2, hT3, hT4⟩ := hT rfl
    split at h
    · rename_i n dp t sp a r
      obtain ⟨⟨hk1, hk2, hk3, hk4, hk5, hk6, hk7⟩, h⟩ := h
      obtain ⟨hsm, hd0, h⟩ := zrm_spec h
      have hn : zI n := zoh hst
      have hdp : zI dp := zoh (zot hst)
      have hsp : zI sp := zoh (zot (zot (zot hst)))
      have ha := zws_at E mem (zkd_lt (k := a.toNat) (by omega))
      rw [zel_i E _ (by omega) (by omega), hk1] at ha
      have ht := zws_at E mem (zkd_lt (k := t.toNat) (by omega))
      rw [zel_i E _ (by omega) (by omega), hk2] at ht
      have neg : ∀ {x : Int}, zI x → 0 ≤ x → ¬ Int32.ofInt x < 0 := fun hx h0 => by rw [z0_i, zlt_i hx (by unfold zI; omega)]; omega
      refine va_copyi hx hb (hml.trans hL.1.symm) hown (hts _ hT1) (hts _ hT2) (hts _ hT3) (hts _ hT4) hOn.1 hH.2 (zws_D E mem) hS a.toNat t.toNat 0 0 ha ht rfl rfl rfl (neg hsp hk3) (neg hdp hk4) (neg hn hk5) (by rw [zcl_i hsp, zcl_i hn]; omega) (by rw [zcl_i hdp, zcl_i hn]; omega) (fun _ _ => rfl) (by omega) ?_ hd (fun H1 locs1 hP1 _ hS1 => ?_)
      · rw [zsm_eq]
        show zsm r + (5 + 2 + 11) ≤ _
        omega
      · have h := h _ rfl
        refine hk _ _ _ _ h p l e R s m args below meth c _ _ cells slots Qf E _ C hc hs (zHp_set (zkd_lt (by omega)) (zcp_rg hH.1 (by omega)) (zcp_o _ _ _ _ _ _) ?_ hP1) hS1 hL hl (zot (zot (zot (zot (zot hst))))) hR
        rw [zel_i E _ (by omega) (by omega), hk2, zcl_i hsp, zcl_i hdp, zcl_i hn]
        congr 4
        funext i
        unfold va_cpy zcp
        by_cases hq : dp.toNat ≤ i ∧ i < dp.toNat + n.toNat
        · rw [if_pos hq, if_pos ⟨rfl, hq⟩]
        · rw [if_neg hq, if_neg (fun z => hq z.2)]
    · exact h.elim
  · exact h.elim
theorem zs_ireturn (hd : decode (zKb (zMk M)) pc = .ok (.ireturn, 1)) (h : match st with
    | [(0, x)] => match zKr (zMk M) with
      | some .int => Q x mem
      | some .boolean => (x = 0 ∨ x = 1) ∧ Q x mem
      | _ => False
    | _ => False) : zG d M pc ls st mem Q := by
  intro p l e R s m args below meth c H locs cells slots Qf E lj C hc hs hH hS hL hl hst hR
  obtain ⟨hx, hb, hml, hown, hts, hfr, hlo, hOn, hscr⟩ := id C
  split at h
  · rename_i x
    split at h
    · rename_i hr
      have g := hR x mem H locs pc lj .ireturn h (by rw [hr]; exact zoh hst) (fun q => by rw [hr] at q; cases q) hH hS hd (Or.inr (Or.inr ⟨Or.inl hr, rfl⟩))
      rw [hr] at g
      exact g
    · rename_i hr
      have g := hR x mem H locs pc lj .ireturn h.2 (by rw [hr]; exact zoh hst) (fun q => h.1) hH hS hd (Or.inr (Or.inr ⟨Or.inr hr, rfl⟩))
      rw [hr] at g
      exact g
    · exact h.elim
  · exact h.elim
theorem zs_lreturn (hd : decode (zKb (zMk M)) pc = .ok (.lreturn, 1)) (h : match st with
    | [(1, x)] => match zKr (zMk M) with
      | some .long => Q x mem
      | _ => False
    | _ => False) : zG d M pc ls st mem Q := by
  intro p l e R s m args below meth c H locs cells slots Qf E lj C hc hs hH hS hL hl hst hR
  obtain ⟨hx, hb, hml, hown, hts, hfr, hlo, hOn, hscr⟩ := id C
  split at h
  · rename_i x
    split at h
    · rename_i hr
      have g := hR x mem H locs pc lj .lreturn h (by rw [hr]; exact zoh hst) (fun q => by rw [hr] at q; cases q) hH hS hd (Or.inr (Or.inl ⟨hr, rfl⟩))
      rw [hr] at g
      exact g
    · exact h.elim
  · exact h.elim
theorem zs_return (hd : decode (zKb (zMk M)) pc = .ok (.return_, 1)) (h : match st with
    | [] => match zKr (zMk M) with
      | none => Q 0 mem
      | _ => False
    | _ => False) : zG d M pc ls st mem Q := by
  intro p l e R s m args below meth c H locs cells slots Qf E lj C hc hs hH hS hL hl hst hR
  obtain ⟨hx, hb, hml, hown, hts, hfr, hlo, hOn, hscr⟩ := id C
  split at h
  · split at h
    · rename_i hr
      have g := hR 0 mem H locs pc lj .return_ h (by rw [hr]; trivial) (fun q => by rw [hr] at q; cases q) hH hS hd (Or.inl ⟨hr, rfl⟩)
      rw [hr] at g
      exact g
    · exact h.elim
  · exact h.elim
end
