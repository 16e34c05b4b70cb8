section
variable {T : List z1m} {dd : Nat} {M : z1m} {lim : Nat × Nat} {S0 S' : List z1c} {pc th : Nat} {st : List zV} {S : List z1c} {k : Nat → List zV → List z1c → Option (List z1c)} {cl : Nat → Nat → List z1c → Option (List z1c)}
theorem z1_putfield {idx : Nat} (hM : z1OK T M) {len : Nat} (hat : zat (z1Mc M) pc = some (.putfield idx, len)) (hk : ∀ pc st S S', k pc st S = some S' → z1G dd M lim S0 S' pc th st S) (h : z1one M lim (.putfield idx) pc th st S k cl = some S') : z1G dd M lim S0 S' pc th st S := by
  obtain ⟨hd, hq⟩ := hM.1 _ (zat_mem hat)
  dsimp only at hd hq
  have e := Nat.eq_of_beq_eq_true hq
  subst e
  intro p l e R s m args below meth c H locs cells slots Qf E lj C hl1 hl2 hc hs hH hS hL hl0 hR
  obtain ⟨hx, hb, hml, hown, hts, hfr, hlo, hin, hOn, hbs⟩ := id C
  unfold z1one at h
  dsimp only at h
  split at h
  · rename_i ci sl pl hat2
    obtain ⟨q, ty, hq1, hq2, hq3, hq4, hq5⟩ := hM.2.1 _ (zat_mem hat2)
    dsimp only at hq1 hq2 hq3 hq4 hq5
    obtain ⟨hnf, ty2, hty2, hdf⟩ := z1def ci q hq1
    split at h
    · rename_i x h' r
      split at h
      · rename_i kd n f w hSh
        split at h
        · rename_i hbn
          simp only [Bool.and_eq_true, Bool.or_eq_true, decide_eq_true_eq] at hbn
          obtain ⟨⟨⟨b1, b2⟩, b3⟩, b4⟩ := hbn
          have e1 := Nat.eq_of_beq_eq_true b1
          have e3 := Nat.eq_of_beq_eq_true b3
          have hz : zfk ci sl ≠ 2 := by
            rcases b4 with b4 | ⟨b4, -⟩
            · have := Nat.eq_of_beq_eq_true b4; omega
            · have := Nat.eq_of_beq_eq_true b4; omega
          have hnar : narrow (ty2 sl) (.int (Int32.ofInt x)) = .int (Int32.ofInt x) ∧ fits (ty2 sl) (.int (Int32.ofInt x)) = true ∧ (q.2.1 sl).2.2.2 = false := by
            rcases b4 with b4 | ⟨b4, b5⟩
            · have hh := hty2.2.2.2.1 sl hq3 (Nat.eq_of_beq_eq_true b4)
              rw [hh.1]
              exact ⟨rfl, rfl, hh.2⟩
            · have hh := hty2.2.2.2.2 sl hq3 (Nat.eq_of_beq_eq_true b4)
              rw [hh.1]
              exact ⟨(zbool b5).1, (zbool b5).2.1, hh.2⟩
          refine z1_putv (c0 := (kd, n, f, w)) (c1 := (kd, n, (sl, x) :: f, w)) (q := q) (ty := ty2) hx hb hown hts hin hOn.1 hH hS hd hq1 hq2 hq3 hty2 hq5 hnar.1 hnar.2.1 (fun z => by rw [hnar.2.2] at z; cases z) hSh ⟨e1, by rw [← hnf]; exact e3⟩ ⟨e1, by rw [← hnf]; exact e3⟩ (fun j hj => ?_) (fun H1 locs1 hH1 hS1 => ?_)
          · unfold z1fv
            dsimp only
            rw [e1]
            by_cases hj2 : j = sl
            · subst hj2
              rw [if_pos rfl, if_neg hz, z1f_cons, if_pos rfl]
              rfl
            · rw [if_neg hj2, z1f_cons, if_neg hj2]
              rfl
          · exact hk _ _ _ _ h p l e R s m args below meth c H1 _ cells slots Qf E lj C hl1 hl2 (by rw [List.length_set]; exact hc) (by rw [z1s_set _ _ _ _ hSh (by rfl)]; exact hs) hH1 hS1 hL hl0 hR
        · cases h
      · cases h
    · rename_i v h' r
      split at h
      · rename_i kd n f w hSh
        split at h
        · rename_i hbn
          simp only [Bool.and_eq_true] at hbn
          obtain ⟨⟨⟨b1, b2⟩, b3⟩, b4⟩ := hbn
          have e1 := Nat.eq_of_beq_eq_true b1
          have e3 := Nat.eq_of_beq_eq_true b3
          have hz : zfk ci sl = 2 := Nat.eq_of_beq_eq_true b4
          have hh := (hdf sl hq3).2 hz
          have hcls : q.1 = z1Mo M := hM.2.2.2.2.2 _ (zat_mem hat2) q hq1
          refine z1_putv (c0 := (kd, n, f, w)) (c1 := (kd, n, f, (sl, v) :: w)) (q := q) (ty := ty2) hx hb hown hts hin hOn.1 hH hS hd hq1 hq2 hq3 hty2 hq5 (hh.2.2 _).1 (hh.2.2 _).2 (fun z => by rw [hh.2.1]; exact hcls) hSh ⟨e1, by rw [← hnf]; exact e3⟩ ⟨e1, by rw [← hnf]; exact e3⟩ (fun j hj => ?_) (fun H1 locs1 hH1 hS1 => ?_)
          · unfold z1fv
            dsimp only
            rw [e1]
            by_cases hj2 : j = sl
            · subst hj2
              rw [if_pos rfl, if_pos hz, z1r_cons, if_pos rfl]
              rfl
            · rw [if_neg hj2, z1r_cons, if_neg hj2]
              rfl
          · exact hk _ _ _ _ h p l e R s m args below meth c H1 _ cells slots Qf E lj C hl1 hl2 (by rw [List.length_set]; exact hc) (by rw [z1s_set _ _ _ _ hSh (by rfl)]; exact hs) hH1 hS1 hL hl0 hR
        · cases h
      · cases h
    · cases h
  · cases h
theorem z1H_rows {E : zEnv} {S : List z1c} {H H1 : Heap} (hH : z1H E S H) : ∀ (rows : List z1c), H1.size = H.size + rows.length → (∀ q : Nat, q < H.size → H1[q]? = H[q]?) → (∀ j c, rows[j]? = some c → va_at (zED E) vwCl (H.size + j, z1el E c) H1) → z1H E (S ++ rows) H1 := by
  intro rows hz ho hc
  refine ⟨by rw [hz, hH.1, List.length_append]; omega, fun k q hk => ?_⟩
  obtain ⟨c', hc', rfl⟩ := z1ws_of hk
  by_cases hlt : k < S.length
  · rw [List.getElem?_append_left hlt] at hc'
    exact (hH.2 k _ (z1ws_at E hc')).kept (ho _ (by rw [hH.1]; show zEb E + k < _; omega))
  · rw [List.getElem?_append_right (by omega)] at hc'
    have := hc (k - S.length) c' hc'
    rw [hH.1, show zEb E + S.length + (k - S.length) = zEb E + k by omega] at this
    exact this
theorem zat_range (b : Nat) : ∀ (n o j : Nat), zat ((List.range' o n).map fun i => (i, b + i)) j = if o ≤ j ∧ j < o + n then some (b + j) else none
  | 0, o, j => by
    rw [if_neg (by omega)]
    rfl
  | n + 1, o, j => by
    rw [List.range'_succ, List.map_cons]
    unfold zat
    by_cases h : o = j
    · subst h
      rw [Nat.beq_refl]
      simp
    · have hb : Nat.beq o j = false := by
        cases hb : Nat.beq o j
        · rfl
        · exact absurd (Nat.eq_of_beq_eq_true hb) h
      rw [hb, zat_range b n (o + 1) j]
      dsimp only
      by_cases h2 : o + 1 ≤ j ∧ j < o + 1 + n
      · rw [if_pos h2, if_pos (by omega)]
      · rw [if_neg h2, if_neg (by omega)]
theorem z1outer (c : ClassId) (N h0 : Nat) : ∀ i : Nat, Jvm.Free.Multi.outerC c N h0 i = arrV c N (fun j => va_rf (if j < i then some (h0 + 1 + j) else none))
  | 0 => by
    unfold Jvm.Free.Multi.outerC
    rw [arrV_new]
    congr 1
  | i + 1 => by
    unfold Jvm.Free.Multi.outerC
    rw [z1outer c N h0 i, arrV_store]
    congr 1
    funext j
    unfold updV
    by_cases e : j = i
    · subst e
      rw [if_pos rfl, if_pos (Nat.lt_succ_self _)]
      rfl
    · rw [if_neg e]
      dsimp only
      by_cases h : j < i
      · rw [if_pos h, if_pos (by omega)]
      · rw [if_neg h, if_neg (by omega)]
theorem z1s_rep (n mm : Nat) : z1s (List.replicate n ((100, mm, [], []) : z1c)) = n * mm := by
  induction n with
  | zero => simp [z1s]
  | succ n ih => rw [List.replicate_succ, z1s, ih, Nat.succ_mul]; show mm + n * mm = _; omega
theorem z1s_rows (n mm b : Nat) : z1s (z1rows n mm b) = n + n * mm := by
  unfold z1rows
  rw [z1s, z1s_rep]
theorem z1_multi {idx dim : Nat} (hM : z1OK T M) {len : Nat} (hat : zat (z1Mc M) pc = some (.multianewarray idx dim, len)) (hac : Cond.arrayClass .int ∈ zgood) (hk : ∀ pc st S S', k pc st S = some S' → z1G dd M lim S0 S' pc th st S) (h : z1one M lim (.multianewarray idx dim) pc th st S k cl = some S') : z1G dd M lim S0 S' pc th st S := by
  obtain ⟨hd, hq⟩ := hM.1 _ (zat_mem hat)
  dsimp only at hd hq
  unfold z1lq at hq
  simp only [Bool.and_eq_true] at hq
  have e := Nat.eq_of_beq_eq_true hq.1
  have e2 := Nat.eq_of_beq_eq_true hq.2
  subst e; subst e2
  intro p l e R s m args below meth c H locs cells slots Qf E lj C hl1 hl2 hc hs hH hS hL hl0 hR
  obtain ⟨hx, hb, hml, hown, hts, hfr, hlo, hin, hOn, hbs⟩ := id C
  unfold z1one at h
  dsimp only at h
  split at h
  · rename_i mm n r
    split at h
    · rename_i pl hat2
      split at h
      · rename_i hbn
        simp only [Bool.and_eq_true] at hbn
        obtain ⟨⟨⟨b1, b2⟩, b3⟩, b4⟩ := hbn
        have hn : n ≤ 1000 := Nat.le_of_ble_eq_true b1
        have hm : mm ≤ 100000 := Nat.le_of_ble_eq_true b2
        have hc1 := Nat.le_of_ble_eq_true b3
        have hs1 := Nat.le_of_ble_eq_true b4
        have hw := (hM.2.2.1 _ (zat_mem hat2)).2.2.2.2 rfl
        intro T0 hT0 Xs
        obtain ⟨vm₁, cA, comp, -, fA, fC, hO, hI, X', step⟩ := Jvm.Stand.multianewarray2F (ty := .int) (index := idx) Xs hx hown (hts _ hw) (show (Cond.arrayOver (.array .int)).before args s = true from hOn.2.2.2.2.2) (hts _ hac) (g := F0 m pc lj (.int (Int32.ofInt (Int.ofNat mm)) :: .int (Int32.ofInt (Int.ofNat n)) :: r.map (zv E))) rfl (by rw [hb]; exact hd) rfl (zNat_nn (by omega)) (zNat_nn hm) (by rw [zNat_cl (by omega)]; omega) (by rw [zNat_cl hm]; show mm * 4 ≤ _; omega) (by rw [zNat_cl hm]; omega) rfl rfl (by rw [zNat_cl (by omega)]; omega) (by rw [zNat_cl (by omega), zNat_cl hm]; omega)
        rw [zNat_cl (show n ≤ 100000 by omega), zNat_cl hm] at X' step
        have hcA : cA = zEc E 113 := Option.some.inj (fA.symm.trans (hOn.1.2 7 _ rfl).2)
        have hcC : comp = zEc E 100 := Option.some.inj (fC.symm.trans (hOn.1.2 0 _ rfl).2)
        subst hcA; subst hcC
        have hTh : (T0.setVm vm₁).heap = H := hT0
        obtain ⟨f1, f2, -, -⟩ := Jvm.Free.Multi.fill_facts (T0.setVm vm₁) (zEc E 113) (zEc E 100) n mm (defaultValue .int) n
        have hold : ∀ x : Nat, x < H.size → (Jvm.Free.Multi.fill (T0.setVm vm₁) (zEc E 113) (zEc E 100) n mm (defaultValue .int) n).heap[x]? = H[x]? := fun x hx => by
          have := Jvm.Free.Multi.fill_old (T0.setVm vm₁) (zEc E 113) (zEc E 100) n mm (defaultValue .int) (a := x) (by rw [hTh]; exact hx) n
          rw [hTh] at this
          exact this
        have hrow : ∀ j : Nat, j < n → (Jvm.Free.Multi.fill (T0.setVm vm₁) (zEc E 113) (zEc E 100) n mm (defaultValue .int) n).heap[H.size + 1 + j]? = some (Jvm.Free.Multi.innerC (zEc E 100) mm (defaultValue .int)) := fun j hj => by
          have := Jvm.Free.Multi.fill_inner (T0.setVm vm₁) (zEc E 113) (zEc E 100) n mm (defaultValue .int) n j hj
          rw [hTh] at this
          exact this
        rw [hTh] at f1 f2
        generalize hF : Jvm.Free.Multi.fill (T0.setVm vm₁) (zEc E 113) (zEc E 100) n mm (defaultValue .int) n = F at X' step f1 f2 hold hrow
        have hH1 : z1H E (S ++ z1rows n mm S.length) F.heap := by
          refine z1H_rows hH _ ?_ hold (fun j c' hj => ?_)
          · rw [f1]; unfold z1rows; rw [List.length_cons, List.length_replicate]; omega
          · unfold z1rows at hj
            match j, hj with
            | 0, hj =>
              cases (show _ = c' by simpa using hj)
              unfold z1el
              rw [if_neg (show ¬ 113 < 100 by decide), if_neg (show ¬ 113 < 103 by decide), if_neg (show ¬ 113 = 103 by decide)]
              show F.heap[H.size + 0]? = some (vp_cell _ _)
              rw [Nat.add_zero, f2, z1outer, vp_cell_q]
              congr 2
              funext j
              unfold z1r
              dsimp only
              have := zat_range (S.length + 1) n 0 j
              rw [← List.range_eq_range'] at this
              rw [this]
              by_cases hjn : j < n
              · rw [if_pos hjn, if_pos ⟨Nat.zero_le _, by omega⟩]
                show va_rf (some (H.size + 1 + j)) = va_rf (some (zEb E + (S.length + 1 + j)))
                rw [show H.size + 1 + j = zEb E + (S.length + 1 + j) by rw [hH.1]; omega]
              · rw [if_neg hjn, if_neg (by omega)]
                rfl
            | j + 1, hj =>
              have hj2 : (List.replicate n ((100, mm, [], []) : z1c))[j]? = some c' := by simpa using hj
              have hjn : j < n := by have := (List.getElem?_eq_some_iff.mp hj2).1; rwa [List.length_replicate] at this
              have := List.eq_of_mem_replicate (List.mem_of_getElem? hj2)
              subst this
              unfold z1el
              rw [if_neg (show ¬ 100 < 100 by decide), if_pos (show 100 < 103 by decide)]
              show F.heap[H.size + (j + 1)]? = some (vp_cell _ _)
              rw [show H.size + (j + 1) = H.size + 1 + j by omega, hrow j hjn, vp_cell_i]
              have e7 : (fun j => Value.int (Int32.ofInt (z1f (100, mm, [], []) j))) = fun _ => defaultValue .int := by
                funext j
                show Value.int (Int32.ofInt 0) = .int 0
                rw [← z0_i]
              rw [e7, ← arrV_new]
              rfl
        have hS1 : va_S (z1A E) s.heap F.heap locs := ⟨Nat.le_trans hS.1 (by rw [f1]; omega), fun x h1 h2 => (hold x (Nat.lt_of_lt_of_le h1 hS.1)).trans (hS.2.1 x h1 h2), hS.2.2⟩
        have hg := hk _ _ _ _ h p l e R s m args below meth c F.heap locs (cells + 1 + n) (slots + n + n * mm) Qf E lj C hl1 hl2 (by unfold z1rows; rw [List.length_append, List.length_cons, List.length_replicate]; omega) (by rw [z1s_app, z1s_rows]; omega) hH1 hS1 hL hl0 hR
        obtain ⟨t, a1, b1⟩ := hg F rfl X'
        refine ⟨t, step t ?_, b1⟩
        rw [List.map_cons, show zv E (2, Int.ofNat S.length) = .ref (zEb E + S.length) from rfl, ← hH.1] at a1
        have e9 : T0.heap.size = H.size := by rw [hT0]
        rw [e9]
        exact a1
      · cases h
    · cases h
  · cases h
end
