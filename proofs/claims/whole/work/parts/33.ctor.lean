section
variable {T : List z1m} {dd : Nat} {M : z1m} {lim : Nat × Nat} {S0 S' : List z1c} {pc th : Nat} {st : List zV} {S : List z1c} {k : Nat → List zV → List z1c → Option (List z1c)} {cl : Nat → Nat → List z1c → Option (List z1c)}
/-- what a call of a constructor gives -/
def z1Call (T : List z1m) (dd : Nat) (lim : Nat × Nat) (ci h : Nat) (S S1 : List z1c) : Prop := ∃ e M', dd = e + 1 ∧ T[ci]? = some M' ∧ z1G e M' (S.length + z1b1 M', z1s S + z1b2 M') S S1 0 h [] S ∧ S1.length = S.length + z1b1 M' ∧ z1s S1 = z1s S + z1b2 M' ∧ S1.length ≤ lim.1 ∧ z1s S1 ≤ lim.2
theorem z1new_spec {c : z1c} {kk : List z1c → Option (List z1c)} (h : z1new lim S c kk = some S') : S.length + 1 ≤ lim.1 ∧ z1s S + c.2.1 ≤ lim.2 ∧ kk (S ++ [c]) = some S' := by
  unfold z1new at h
  split at h
  · rename_i hb
    rw [Bool.and_eq_true] at hb
    exact ⟨Nat.le_of_ble_eq_true hb.1, Nat.le_of_ble_eq_true hb.2, h⟩
  · cases h
theorem zNat_i {n : Nat} (h : n ≤ 100000) : zI (Int.ofNat n) := by unfold zI; simp only [Int.ofNat_eq_natCast]; omega
theorem zNat_nn {n : Nat} (h : n ≤ 100000) : ¬ Int32.ofInt (Int.ofNat n) < 0 := by
  rw [z0_i, zlt_i (zNat_i h) (by unfold zI; omega)]
  simp only [Int.ofNat_eq_natCast]
  omega
theorem zNat_cl {n : Nat} (h : n ≤ 100000) : (Int32.ofInt (Int.ofNat n)).toNatClampNeg = n := by
  rw [zcl_i (zNat_i h)]
  rfl
theorem zNat_in {i n : Nat} (hn : n ≤ 100000) (hi : i < n) : vp_in (Int32.ofInt (Int.ofNat i)) n := zin_i (zNat_i (by omega)) (by simp) (by simp only [Int.ofNat_eq_natCast]; omega)
/-- the plain pushes -/
theorem z1_push {i : Instr} (hM : z1OK T M) {len : Nat} (hat : zat (z1Mc M) pc = some (i, len)) (hk : ∀ pc st S S', k pc st S = some S' → z1G dd M lim S0 S' pc th st S)
    (hi : (∃ n, i = .aload_n n) ∨ (∃ n, i = .iconst n) ∨ (∃ n, i = .bipush n) ∨ (∃ n, i = .sipush n) ∨ i = .dup ∨ i = .return_) (h : z1one M lim i pc th st S k cl = some S') : z1G dd M lim S0 S' pc th st S := by
  obtain ⟨hd, hq⟩ := hM.1 _ (zat_mem hat)
  dsimp only at hd hq
  intro p l e R s m args below meth c H locs cells slots Qf E lj C hl1 hl2 hc hs hH hS hL hl0 hR
  obtain ⟨hx, hb, hml, hown, hts, hfr, hlo, hin, hOn, hbs⟩ := id C
  rcases hi with ⟨n, rfl⟩ | ⟨n, rfl⟩ | ⟨n, rfl⟩ | ⟨n, rfl⟩ | rfl | rfl
  · have e := Nat.eq_of_beq_eq_true hq
    subst e
    unfold z1one at h
    dsimp only at h
    split at h
    · rename_i hn
      exact lv_aload_n hx hb hd hn hl0 (hk _ _ _ _ h p l e R s m args below meth c H locs cells slots Qf E lj C hl1 hl2 hc hs hH hS hL hl0 hR)
    · cases h
  · have e := Nat.eq_of_beq_eq_true hq
    subst e
    exact lv_iconst hx hb hd rfl (hk _ _ _ _ h p l e R s m args below meth c H locs cells slots Qf E lj C hl1 hl2 hc hs hH hS hL hl0 hR)
  · unfold z1lq at hq
    simp only [Bool.and_eq_true, decide_eq_true_eq] at hq
    have e := Nat.eq_of_beq_eq_true hq.1.1
    subst e
    exact lv_bipush hx hb hd (zb8 ⟨hq.1.2, hq.2⟩) (hk _ _ _ _ h p l e R s m args below meth c H locs cells slots Qf E lj C hl1 hl2 hc hs hH hS hL hl0 hR)
  · unfold z1lq at hq
    simp only [Bool.and_eq_true, decide_eq_true_eq] at hq
    have e := Nat.eq_of_beq_eq_true hq.1.1
    subst e
    exact lv_sipush hx hb hd (zb16 ⟨hq.1.2, hq.2⟩) (hk _ _ _ _ h p l e R s m args below meth c H locs cells slots Qf E lj C hl1 hl2 hc hs hH hS hL hl0 hR)
  · have e := Nat.eq_of_beq_eq_true hq
    subst e
    unfold z1one at h
    dsimp only at h
    split at h
    · exact lv_dup hx hb hd rfl (hk _ _ _ _ h p l e R s m args below meth c H locs cells slots Qf E lj C hl1 hl2 hc hs hH hS hL hl0 hR)
    · cases h
  · have e := Nat.eq_of_beq_eq_true hq
    subst e
    unfold z1one at h
    dsimp only at h
    split at h
    · cases h
      exact hR H locs cells slots pc hc hs hH hS hd
    · cases h
theorem z1_new {idx : Nat} (hM : z1OK T M) {len : Nat} (hat : zat (z1Mc M) pc = some (.new idx, len)) (hk : ∀ pc st S S', k pc st S = some S' → z1G dd M lim S0 S' pc th st S) (h : z1one M lim (.new idx) pc th st S k cl = some S') : z1G dd M lim S0 S' pc th st S := by
  obtain ⟨hd, hq⟩ := hM.1 _ (zat_mem hat)
  dsimp only at hd hq
  have e := Nat.eq_of_beq_eq_true hq
  subst e
  intro p l e R s m args below meth c H locs cells slots Qf E lj C hl1 hl2 hc hs hH hS hL hl0 hR
  obtain ⟨hx, hb, hml, hown, hts, hfr, hlo, hin, hOn, hbs⟩ := id C
  unfold z1one at h
  dsimp only at h
  split at h
  · rename_i ci pl hat2
    split at h
    · rename_i hb13
      have h13 : ci < 13 := Nat.le_of_ble_eq_true hb13
      obtain ⟨n1, n2, h⟩ := z1new_spec h
      dsimp only at n2
      obtain ⟨q, w1, w2, w3, w4⟩ := (hM.2.2.1 _ (zat_mem hat2)).1 h13
      obtain ⟨hnf, ty, hty, hdf⟩ := z1def ci q w1
      have hKn := hOn.1.1 ci q w1
      refine W.newcK (g := F0 m pc lj (st.map (zv E))) hx hb hown (hts _ w2) (hts _ w3) (hts _ w4) rfl hd (by omega) (by rw [hnf] at n2; omega) hKn.2.1 hH.1 (fun H1 kC hkC e1 z1 o1 => ?_)
      rw [← hH.1] at e1 o1 z1
      have hH1 : z1H E (S ++ [(ci, z1nf ci, [], [])]) H1 := by
        refine z1H_push hH z1 o1 ?_
        unfold z1el
        rw [if_pos (show ci < 100 by omega)]
        refine ⟨q, w1, (u_born ty hts hty.1 hKn hkC e1 hty.2.1).to (fun j hj => ?_)⟩
        rw [(hdf j hj).1]
        unfold vp_V
        rw [List.getD_eq_getElem?_getD, List.getElem?_map, List.getElem?_range (show j < z1nf ci by rw [hnf]; exact hj)]
        show _ = z1fv E (ci, z1nf ci, [], []) j
        unfold z1fv
        dsimp only
        split <;> rfl
      have hg := hk _ _ _ _ h p l e R s m args below meth c H1 locs (cells + 1) (slots + q.2.2) Qf E lj C hl1 hl2 (by rw [List.length_append, List.length_singleton]; omega) (by rw [z1s_app]; show _ = _ + (z1nf ci + 0); omega) hH1 (z1S_push hS z1 o1) hL hl0 hR
      exact hg
    · cases h
  · cases h
theorem z1_newarray {at_ : ArrayType} (hM : z1OK T M) {len : Nat} (hat : zat (z1Mc M) pc = some (.newarray at_, len)) (hac : ∀ ty ∈ ([.int, .byte, .boolean, .long] : List FieldType), Cond.arrayClass ty ∈ zgood) (hk : ∀ pc st S S', k pc st S = some S' → z1G dd M lim S0 S' pc th st S) (h : z1one M lim (.newarray at_) pc th st S k cl = some S') : z1G dd M lim S0 S' pc th st S := by
  obtain ⟨hd, hq⟩ := hM.1 _ (zat_mem hat)
  dsimp only at hd hq
  have e := Nat.eq_of_beq_eq_true hq
  subst e
  intro p l e R s m args below meth c H locs cells slots Qf E lj C hl1 hl2 hc hs hH hS hL hl0 hR
  obtain ⟨hx, hb, hml, hown, hts, hfr, hlo, hin, hOn, hbs⟩ := id C
  unfold z1one at h
  dsimp only at h
  split at h
  · rename_i n r
    split at h
    · rename_i hbn
      rw [Bool.and_eq_true] at hbn
      have hn1 : n ≤ 100000 := Nat.le_of_ble_eq_true hbn.1
      have hn2 : z1at at_ ≤ 103 := Nat.le_of_ble_eq_true hbn.2
      obtain ⟨n1, n2, h⟩ := z1new_spec h
      dsimp only at n2
      have key : ∀ (t0 : Nat) (ty : FieldType), newarray.typeOf at_ = ty → ty ∈ ([.int, .byte, .boolean, .long] : List FieldType) → (ztys E)[t0]? = some (zEc E (z1at at_), ty) → n * componentBytes ty ≤ 536870912 → (∀ cA : ClassId, arrV cA n (fun _ => defaultValue ty) = match z1el E (z1at at_, n, [], []) with | .inl a => vp_cell cA a.2 | .inr _ => arrV cA n (fun _ => defaultValue ty)) → (∃ a, z1el E (z1at at_, n, [], []) = .inl (zEc E (z1at at_), a)) → (va_RA s (zEc E (z1at at_)) ty → s.vm.findClass ("[" ++ ty.toString) = some (zEc E (z1at at_))) → W p l e R s m args below meth c H locs cells slots Qf (F0 m pc lj ((((0, Int.ofNat n) :: r) : List zV).map (zv E))) := by
        intro t0 ty hty hmem ht hbytes hcell hinl hra
        subst hty
        refine va_newaK (g := F0 m pc lj (.int (Int32.ofInt (Int.ofNat n)) :: r.map (zv E))) hx hb (hts _ (hac _ hmem)) rfl hd rfl (zNat_nn hn1) (zNat_cl hn1) hbytes (by omega) (by omega) hH.1 (fun H1 cA e1 z1 o1 hAr hNm => ?_)
        rw [← hH.1] at e1 o1 z1
        have hcA : cA = zEc E (z1at at_) := Option.some.inj (hNm.symm.trans (hra (hOn.1.2 t0 _ ht).2))
        subst hcA
        obtain ⟨a, ha⟩ := hinl
        have hH1 : z1H E (S ++ [(z1at at_, n, [], [])]) H1 := by
          refine z1H_push hH z1 o1 ?_
          have hcl := hcell (zEc E (z1at at_))
          rw [ha] at hcl ⊢
          show H1[H.size]? = some (vp_cell _ _)
          rw [e1, hcl]
        have hg := hk _ _ _ _ h p l e R s m args below meth c H1 locs (cells + 1) (slots + n) Qf E lj C hl1 hl2 (by rw [List.length_append, List.length_singleton]; omega) (by rw [z1s_app]; show _ = _ + (n + 0); omega) hH1 (z1S_push hS z1 o1) hL hl0 hR
        exact hg
      cases at_ <;> first | exact absurd hn2 (by decide) | skip
      · refine key 2 .boolean rfl (by decide) rfl (by show n * 1 ≤ _; omega) (fun cA => ?_) ⟨_, rfl⟩ (fun h => h)
        rfl
      · refine key 1 .byte rfl (by decide) rfl (by show n * 1 ≤ _; omega) (fun cA => ?_) ⟨_, rfl⟩ (fun h => h)
        rfl
      · refine key 0 .int rfl (by decide) rfl (by show n * 4 ≤ _; omega) (fun cA => ?_) ⟨_, rfl⟩ (fun h => h)
        rfl
      · refine key 3 .long rfl (by decide) rfl (by show n * 8 ≤ _; omega) (fun cA => ?_) ⟨_, rfl⟩ (fun h => h)
        rfl
    · cases h
  · cases h
theorem z1_anewarray {idx : Nat} (hM : z1OK T M) {len : Nat} (hat : zat (z1Mc M) pc = some (.anewarray idx, len)) (hk : ∀ pc st S S', k pc st S = some S' → z1G dd M lim S0 S' pc th st S) (h : z1one M lim (.anewarray idx) pc th st S k cl = some S') : z1G dd M lim S0 S' pc th st S := by
  obtain ⟨hd, hq⟩ := hM.1 _ (zat_mem hat)
  dsimp only at hd hq
  have e := Nat.eq_of_beq_eq_true hq
  subst e
  intro p l e R s m args below meth c H locs cells slots Qf E lj C hl1 hl2 hc hs hH hS hL hl0 hR
  obtain ⟨hx, hb, hml, hown, hts, hfr, hlo, hin, hOn, hbs⟩ := id C
  unfold z1one at h
  dsimp only at h
  split at h
  · rename_i n r
    split at h
    · rename_i kd pl hat2
      split at h
      · rename_i hbn
        simp only [Bool.and_eq_true] at hbn
        have hn1 : n ≤ 100000 := Nat.le_of_ble_eq_true hbn.1.1
        have hk1 : 110 ≤ kd := Nat.le_of_ble_eq_true hbn.1.2
        have hk2 : kd ≤ 112 := Nat.le_of_ble_eq_true hbn.2
        obtain ⟨n1, n2, h⟩ := z1new_spec h
        dsimp only at n2
        have hw := hM.2.2.1 _ (zat_mem hat2)
        have key : ∀ (t0 : Nat) (C1 : String), Cond.classLink (z1Mo M) (idx + 1000 - 1000) C1 ∈ zgood → va_AO C1 s → (ztys E)[t0]? = some (zEc E kd, .object C1) → W p l e R s m args below meth c H locs cells slots Qf (F0 m pc lj ((((0, Int.ofNat n) :: r) : List zV).map (zv E))) := by
          intro t0 C1 hcl hao ht
          rw [Nat.add_sub_cancel] at hcl
          refine W.anew (g := F0 m pc lj (.int (Int32.ofInt (Int.ofNat n)) :: r.map (zv E))) hx hb hown (hts _ hcl) (va_AO.use hao) rfl hd rfl (zNat_nn hn1) (by rw [zNat_cl hn1]; omega) (by omega) (by rw [zNat_cl hn1]; omega) (fun cA kA comp f1 f2 f3 f4 => ?_)
          rw [zNat_cl hn1]
          generalize hH1 : H.push ({ cls := cA, slots := Array.replicate n .null, vm := .none } : Cell) = H1
          have z1 : H1.size = H.size + 1 := by rw [← hH1, Array.size_push]
          have e1 : H1[H.size]? = some (arrV cA n (fun _ => .null)) := by rw [← hH1, Array.getElem?_push_size, ← arrV_new]
          have o1 : ∀ q : Nat, q < H.size → H1[q]? = H[q]? := fun q hq => by rw [← hH1, Array.getElem?_push, if_neg (Nat.ne_of_lt hq)]
          have hcA : cA = zEc E kd := by
            obtain ⟨kA', comp', -, -, -, q4⟩ := (hOn.1.2 t0 _ ht).2
            exact Option.some.inj (f1.symm.trans q4)
          subst hcA
          have hH2 : z1H E (S ++ [(kd, n, [], [])]) H1 := by
            refine z1H_push hH z1 o1 ?_
            unfold z1el
            rw [if_neg (show ¬ kd < 100 by omega), if_neg (show ¬ kd < 103 by omega), if_neg (show ¬ kd = 103 by omega)]
            show H1[H.size]? = some (vp_cell _ _)
            rw [e1]
            rfl
          have hg := hk _ _ _ _ h p l e R s m args below meth c H1 locs (cells + 1) (slots + n) Qf E lj C hl1 hl2 (by rw [List.length_append, List.length_singleton]; omega) (by rw [z1s_app]; show _ = _ + (n + 0); omega) hH2 (z1S_push hS z1 o1) hL hl0 hR
          rw [List.map_cons, show zv E (2, Int.ofNat S.length) = .ref (zEb E + S.length) from rfl, ← hH.1] at hg
          exact hg
        rcases (show kd = 110 ∨ kd = 111 ∨ kd = 112 by omega) with q | q | q
        · exact key 4 _ (hw.2.1 q) hOn.2.2.1 (by rw [q]; rfl)
        · exact key 5 _ (hw.2.2.1 q) hOn.2.2.2.1 (by rw [q]; rfl)
        · exact key 6 _ (hw.2.2.2.1 q) hOn.2.2.2.2.1 (by rw [q]; rfl)
      · cases h
    · cases h
  · cases h
end
