section
def z1S0 : List z1c := [(11, 13, [], [])]
def z1S1 : List z1c := (z1x z1T 600 4 (z1S0.length + z1b1 z1T11, z1s z1S0 + z1b2 z1T11) z1T11 0 0 [] z1S0).getD []
theorem z1some {o : Option (List z1c)} (h : o.isSome = true) : o = some (o.getD []) := by
  cases o with
  | none => cases h
  | some x => rfl
theorem z1run1 : z1x z1T 600 4 (z1S0.length + z1b1 z1T11, z1s z1S0 + z1b2 z1T11) z1T11 0 0 [] z1S0 = some z1S1 := z1some (by decide +kernel)
def z1S2 : List z1c := z1S1 ++ [(12, 44, [], [])]
def z1S3 : List z1c := (z1x z1T 600 4 (z1S2.length + z1b1 z1T12, z1s z1S2 + z1b2 z1T12) z1T12 0 122 [] z1S2).getD []
theorem z1run2 : z1x z1T 600 4 (z1S2.length + z1b1 z1T12, z1s z1S2 + z1b2 z1T12) z1T12 0 122 [] z1S2 = some z1S3 := z1some (by decide +kernel)
theorem z1l1 : z1S1.length = z1S0.length + z1b1 z1T11 ∧ z1s z1S1 = z1s z1S0 + z1b2 z1T11 := ⟨by decide +kernel, by decide +kernel⟩
theorem z1l2 : z1S3.length = z1S2.length + z1b1 z1T12 ∧ z1s z1S3 = z1s z1S2 + z1b2 z1T12 := ⟨by decide +kernel, by decide +kernel⟩
/-- the two constructors' contracts -/
theorem z1_od (l : Launch) (E : zEnv) : Met l yX11_init (zW (z1Mk z1T11)) (z1Rm 4 121 7095) (z1Pc E 0 z1S0) (z1Qc E z1S1) 121 7095 (z1A E) :=
  z1Met z1T11_ok (z1x_ok z1T_ok z1ac 600 4 _ _ 0 0 [] _ _ _ (by omega) z1T11_ok z1run1) z1l1.1 z1l1.2 l E
theorem z1_mo (l : Launch) (E : zEnv) : Met l yX12_init (zW (z1Mk z1T12)) (z1Rm 4 23 31046) (z1Pc E 122 z1S2) (z1Qc E z1S3) 23 31046 (z1A E) :=
  z1Met z1T12_ok (z1x_ok z1T_ok z1ac 600 4 _ _ 0 122 [] _ _ _ (by omega) z1T12_ok z1run2) z1l2.1 z1l2.2 l E
def z1cmp (k : Nat) (c : z1c) : Bool := Nat.beq c.1 (zkd k) && Nat.beq c.2.1 (zln k) && c.2.2.1.all (fun w => Nat.ble (w.1 + 1) 50) && Nat.ble (zIL.getD k []).length 50 && (List.range 50).all (fun j => decide (z1f c j = zm0 k j)) &&
  (match Nat.ble (zkd k + 1) 100 with
    | true => (List.range (zln k)).all fun j => match Nat.beq (zfk (zkd k) j) 2 with
      | true => decide (z1r c j = some (zrt k j))
      | false => true
    | false => match Nat.ble (zkd k) 103 with
      | true => true
      | false => (List.range (zln k)).all fun j => decide (z1r c j = some (zrt k j)))
def z1fin (S : List z1c) : Bool := Nat.beq S.length 146 && (List.range 146).all fun k => match S[k]? with
  | some c => z1cmp k c
  | none => false
theorem z1fin3 : z1fin z1S3 = true := by decide +kernel
theorem zat_none {α : Type} : ∀ (l : List (Nat × α)) (j : Nat), (∀ w ∈ l, w.1 ≠ j) → zat l j = none
  | [], j, _ => rfl
  | (i, x) :: r, j, h => by
    unfold zat
    have hb : Nat.beq i j = false := by
      cases hb : Nat.beq i j
      · rfl
      · exact absurd (Nat.eq_of_beq_eq_true hb) (h _ (List.mem_cons_self ..))
    rw [hb]
    exact zat_none r j (fun w hw => h w (List.mem_cons_of_mem _ hw))
theorem z1num {k : Nat} {c : z1c} (h : z1cmp k c = true) (j : Nat) : z1f c j = zm0 k j := by
  unfold z1cmp at h
  simp only [Bool.and_eq_true, List.all_eq_true] at h
  obtain ⟨⟨⟨⟨⟨-, -⟩, h3⟩, h4⟩, h5⟩, -⟩ := h
  by_cases hj : j < 50
  · exact of_decide_eq_true (h5 j (List.mem_range.mpr hj))
  · have h4 := Nat.le_of_ble_eq_true h4
    unfold z1f zm0
    rw [zat_none c.2.2.1 j (fun w hw => by have := Nat.le_of_ble_eq_true (h3 w hw); omega), List.getD_eq_getElem?_getD (l := zIL.getD k []), List.getElem?_eq_none (by omega)]
theorem z1arr {c : ClassId} {n : Nat} {f g : Nat → Value} (h : ∀ j, j < n → f j = g j) : arrV c n f = arrV c n g := by
  unfold arrV
  have : (fun (j : Fin n) => f j.val) = fun (j : Fin n) => g j.val := funext fun j => h j.val j.isLt
  rw [this]
theorem zrg0 : zrg zm0 := by
  have h : ∀ l ∈ zIL, ∀ x ∈ l, -10 ≤ x ∧ x ≤ 1000 := by decide +kernel
  have hz : ∀ k j, -10 ≤ zm0 k j ∧ zm0 k j ≤ 1000 := by
    intro k j
    unfold zm0
    rw [List.getD_eq_getElem?_getD (l := zIL.getD k [])]
    cases h1 : (zIL.getD k [])[j]? with
    | none => exact ⟨by decide, by decide⟩
    | some x =>
      have h2 := List.mem_of_getElem? h1
      rw [List.getD_eq_getElem?_getD] at h2
      cases h3 : zIL[k]? with
      | none => rw [h3] at h2; cases h2
      | some l =>
        rw [h3] at h2
        exact h l (List.mem_of_getElem? h3) x h2
  intro k j
  have := hz k j
  exact ⟨fun _ => by unfold zJ; omega, fun _ => by unfold zI; omega⟩
theorem z1end {E : zEnv} {H : Heap} (hH : z1H E z1S3 H) : zHp E zm0 H := by
  have hf := z1fin3
  unfold z1fin at hf
  simp only [Bool.and_eq_true, List.all_eq_true] at hf
  refine ⟨zrg0, fun k q hk => ?_⟩
  obtain ⟨hk', rfl⟩ := zws_of hk
  have hc := hf.2 k (List.mem_range.mpr hk')
  split at hc
  · rename_i c hS
    have hv := hH.2 k _ (z1ws_at E hS)
    have hnum := z1num hc
    unfold z1cmp at hc
    simp only [Bool.and_eq_true] at hc
    obtain ⟨⟨⟨⟨⟨h1, h2⟩, -⟩, -⟩, -⟩, h6⟩ := hc
    have h1 := Nat.eq_of_beq_eq_true h1
    have h2 := Nat.eq_of_beq_eq_true h2
    have hnum' : z1f c = zm0 k := funext hnum
    unfold z1el at hv
    unfold zel
    rw [h1, h2] at hv
    by_cases a1 : zkd k < 100
    · rw [Nat.ble_eq_true_of_le (show zkd k + 1 ≤ 100 from a1)] at h6
      dsimp only at h6
      rw [List.all_eq_true] at h6
      rw [if_pos a1] at hv ⊢
      have e : (List.range (zln k)).map (z1fv E c) = (List.range (zln k)).map fun j => zfv E k j (zm0 k j) := by
        refine List.map_congr_left fun j hj => ?_
        have h7 := h6 j hj
        unfold z1fv zfv
        rw [h1, hnum j]
        by_cases a2 : zfk (zkd k) j = 2
        · rw [z1beq a2] at h7
          rw [if_pos a2, if_pos a2, of_decide_eq_true h7]
          rfl
        · rw [if_neg a2, if_neg a2]
      rw [e] at hv
      exact hv
    · rw [if_neg a1] at hv ⊢
      by_cases a2 : zkd k < 103
      · rw [if_pos a2] at hv ⊢
        rw [hnum'] at hv
        exact hv
      · rw [if_neg a2] at hv ⊢
        by_cases a3 : zkd k = 103
        · rw [if_pos a3] at hv ⊢
          rw [hnum'] at hv
          exact hv
        · rw [if_neg a3] at hv ⊢
          have b1 : Nat.ble (zkd k + 1) 100 = false := by
            cases b : Nat.ble (zkd k + 1) 100
            · rfl
            · exact absurd (Nat.le_of_ble_eq_true b) (by omega)
          have b2 : Nat.ble (zkd k) 103 = false := by
            cases b : Nat.ble (zkd k) 103
            · rfl
            · exact absurd (Nat.le_of_ble_eq_true b) (by omega)
          rw [b1, b2] at h6
          dsimp only at h6
          rw [List.all_eq_true] at h6
          have hv : H[zEb E + k]? = some (vp_cell _ _) := hv
          show H[zEb E + k]? = some (vp_cell _ _)
          rw [hv, vp_cell_q, vp_cell_q]
          refine congrArg some (z1arr fun j hj => ?_)
          rw [of_decide_eq_true (h6 j (List.mem_range.mpr hj))]
          rfl
  · cases hc
end
