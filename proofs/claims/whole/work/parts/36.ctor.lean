section
variable {T : List z1m} {dd : Nat} {M : z1m} {lim : Nat × Nat} {S0 S' : List z1c} {pc th : Nat} {st : List zV} {S : List z1c} {k : Nat → List zV → List z1c → Option (List z1c)} {cl : Nat → Nat → List z1c → Option (List z1c)}
def z1Rm (e b1 b2 : Nat) : Room := { frames := e, cells := b1, slots := b2, locals := 100 * e }
def z1Pc (E : zEnv) (h : Nat) (S : List z1c) : Array Value → State → Prop := fun v U => v = ([.ref (zEb E + h)] : List Value).toArray ∧ z1On E U ∧ zEb E ≤ U.heap.size ∧ z1H E S U.heap
def z1Qc (E : zEnv) (S1 : List z1c) : Array Value → State → Outcome → State → Prop := fun _ st o t => (o = .returned none ∧ z1H E S1 t.heap) ∧ va_F (z1A E) st t
theorem z1Pc_blind (E : zEnv) (h : Nat) (S : List z1c) : FrameBlind (z1Pc E h S) := by
  intro a U g mk q
  obtain ⟨h1, h2, h3, h4⟩ := q
  exact ⟨h1, z1On.same (s := U) (U := U.calling g mk a) rfl h2, h3, h4⟩
/-- a constructor's contract -/
theorem z1Met {M' : z1m} {e h : Nat} {S S1 : List z1c} (hM : z1OK T M') (hg : z1G e M' (S.length + z1b1 M', z1s S + z1b2 M') S S1 0 h [] S) (h1 : S1.length = S.length + z1b1 M') (h2 : z1s S1 = z1s S + z1b2 M') (l : Launch) (E : zEnv) : Met l (zKy (z1Mk M')) (zW (z1Mk M')) (z1Rm e (z1b1 M') (z1b2 M')) (z1Pc E h S) (z1Qc E S1) (z1b1 M') (z1b2 M') (z1A E) := by
  obtain ⟨k1, k2, k3, k4, k5, k6, k7, k8, k9, k10, k11⟩ := hM.2.2.2.2.1
  refine Met.ofW (cc := zKb (z1Mk M')) (maxL := zKl (z1Mk M')) (ret := zKr (z1Mk M')) k10 rfl ?_
  intro p e' s m args below meth c s₁ B hml hv
  obtain ⟨rfl, hOn, hbs, hH⟩ := hv
  have hx := B.exec
  have hb := B.bytes
  have hr := B.returns
  have hts := atoms_spec (ws := zW (z1Mk M')) B.pre
  have hown : s.vm.findClass (zKy (z1Mk M')).cls = some m.cls := findClass_of_methodNamed B.named
  have hin : meth.name = (zKy (z1Mk M')).name := (name_of_methodNamed B.named B.method).1
  have hlocks := B.notSynchronized
  rw [k11] at hown
  rw [k7] at hin
  rw [k9] at hr
  have hl := lv_entry [.ref (zEb E + h)] (n := zKl (z1Mk M')) (by rw [k8]; exact Nat.le_refl 1)
  rw [lg_entry_eq]
  generalize (lg_sl [.ref (zEb E + h)] ++ List.replicate (zKl (z1Mk M') - (lg_sl [.ref (zEb E + h)]).length) Slot.unset).toArray = lj at hl ⊢
  refine hg p l e' _ s m _ below meth c s.heap [] 0 0 _ E lj ⟨hx, hb, hml, hown, fun w hw => hts w (List.mem_cons_of_mem _ hw), Nat.le_refl e, Nat.le_refl (100 * e), hin, hOn, hbs⟩ (Nat.le_refl _) (Nat.le_refl _) (Nat.zero_add _) (Nat.zero_add _) hH va_S.rf hl.1 (lv_at hl 0 rfl) ?_
  intro H' locs' cells' slots' pc' hc hs hH' hS' hd
  have ec : cells' = z1b1 M' := by omega
  have es : slots' = z1b2 M' := by omega
  subst ec; subst es
  exact W.vret hx hb hr (fun t ht _ => ⟨⟨rfl, by rw [ht]; exact hH'⟩, hS'.F ht⟩) hS'.2.2 hd
theorem z1_special {idx : Nat} (hT : ∀ (ci : Nat) (M' : z1m), T[ci]? = some M' → z1OK T M') (hM : z1OK T M) {len : Nat} (hat : zat (z1Mc M) pc = some (.invokespecial idx, len)) (hdd : 1 ≤ dd) (hk : ∀ pc st S S', k pc st S = some S' → z1G dd M lim S0 S' pc th st S) (hcl : ∀ ci h S S1, cl ci h S = some S1 → z1Call T dd lim ci h S S1) (h : z1one M lim (.invokespecial idx) pc th st S k cl = some S') : z1G dd M lim S0 S' pc th st S := by
  obtain ⟨hd, hq⟩ := hM.1 _ (zat_mem hat)
  dsimp only at hd hq
  have e := Nat.eq_of_beq_eq_true hq
  subst e
  intro p l e R s m args below meth c H locs cells slots Qf E lj C hl1 hl2 hc hs hH hS hL hl0 hR
  obtain ⟨hx, hb, hml, hown, hts, hfr, hlo, hin, hOn, hbs⟩ := id C
  unfold z1one at h
  dsimp only at h
  split at h
  · rename_i ci pl hat2
    have hw := hM.2.2.2.1 _ (zat_mem hat2)
    split at h
    · rename_i hh r
      split at h
      · rename_i hsm
        have hsm := Nat.le_of_ble_eq_true hsm
        split at h
        · rename_i h99
          obtain ⟨w1, w2, w3⟩ := hw.1 (Nat.eq_of_beq_eq_true h99)
          refine W.objInit (g := F0 m pc lj (.ref (zEb E + hh) :: r.map (zv E))) hx hb hown (hts _ w1) (hts _ w2) (hts _ w3) rfl (hL.trans hml.symm) rfl hd (by omega) ?_ (hk _ _ _ _ h p l e R s m args below meth c H locs cells slots Qf E lj C hl1 hl2 hc hs hH hS hL hl0 hR)
          rw [zsm_eq]
          show 2 * 0 + zsm r + 12 ≤ R.locals
          omega
        · rename_i h99
          have hne : ci ≠ 99 := fun q => by rw [q] at h99; exact absurd h99 (by decide)
          cases hc1 : cl ci hh S with
          | none => rw [hc1] at h; cases h
          | some S1 =>
            rw [hc1] at h
            have h : k (pc + 3) r S1 = some S' := h
            obtain ⟨e0, M', rfl, hT1, hg, g1, g2, g3, g4⟩ := hcl ci hh S S1 hc1
            have hM' := hT ci M' hT1
            obtain ⟨k1, k2, k3, k4, k5, k6, k7, k8, k9, k10, k11⟩ := hM'.2.2.2.2.1
            have hnest := hw.2 hne M' hT1
            have hMet := z1Met hM' hg g1 g2 l E
            have hG : GoodIn zgood (zW (z1Mk M')) := by
              intro w hw
              have : w ∈ zgood := by
                unfold zW at hw
                rcases List.mem_cons.mp hw with rfl | hw
                · rw [k8, k9]; exact k1
                · exact hw
              exact ⟨this, zgood_in this⟩
            have hrun := va_runIN (b := zEb E + hh) (As := []) (rest := r.map (zv E)) (g := F0 m pc lj (.ref (zEb E + hh) :: r.map (zv E))) (R := R) (H := H) (locs := locs) (cells := cells) (slots := slots) (e := e) (below := below) (meth := meth) ⟨hx, hb, hml, hown, hts⟩ hMet ⟨va_cnB (ws' := zgood) (maxL := 1) 0 hts hG (by unfold zW; rw [k8, k9]) rfl rfl (hOn.2.1 _ hnest) (hts _ k3) ⟨k4, k5, k6⟩ ⟨by show e0 + 1 ≤ _; exact hfr, by show 8 + (1 + 11) + 100 * e0 ≤ _; omega⟩, k7, hts _ k2⟩ ⟨z1Pc_blind E hh S, fun U hU hW => ⟨rfl, hOn.warm hW, by rw [hU, hH.1]; omega, by rw [hU]; exact hH⟩⟩ rfl rfl hL rfl (lv_room (by rw [zsm_eq]; exact hsm)) hd ⟨by omega, by omega⟩
            intro T0 hT0 X
            obtain ⟨v, st₀, t, T', L, h0, X', hLc, e1, e2, ⟨⟨hv, hh1⟩, hz, hkp⟩, stp⟩ := hrun T0 hT0 X
            cases hv
            rw [h0] at hz hkp
            have hg2 := hk _ _ _ _ h p l e R s m args below meth c T'.heap (locs ++ L) (cells + z1b1 M') (slots + z1b2 M') Qf E lj C hl1 hl2 (by omega) (by omega) (by rw [e1]; exact hh1)
              ⟨Nat.le_trans hS.1 (by rw [e1]; exact hz), fun q h1 h2 => by rw [e1, hkp q (Nat.lt_of_lt_of_le h1 hS.1) h2]; exact hS.2.1 q h1 h2, fun q hq => by
                rcases List.mem_append.mp hq with h | h
                · exact hS.2.2 q h
                · exact hLc q h⟩ hL hl0 hR
            obtain ⟨t2, a1, b1⟩ := hg2 T' rfl X'
            exact ⟨t2, stp t2 a1, b1⟩
      · cases h
    · cases h
  · cases h
theorem z1cl_ok (hT : ∀ (ci : Nat) (M' : z1m), T[ci]? = some M' → z1OK T M') {f dd : Nat} {lim : Nat × Nat} (hrec : ∀ (dd2 : Nat) (lim : Nat × Nat) (M' : z1m) (hh : Nat) (S2 S3 : List z1c), 1 ≤ dd2 → z1OK T M' → z1x T f dd2 lim M' 0 hh [] S2 = some S3 → z1G dd2 M' lim S2 S3 0 hh [] S2) {ci hh : Nat} {S2 S1 : List z1c} (hc : (match dd, T[ci]? with
      | e + 2, some M' => match z1x T f (e + 1) (S2.length + z1b1 M', z1s S2 + z1b2 M') M' 0 hh [] S2 with
        | some S' => match Nat.beq S'.length (S2.length + z1b1 M') && Nat.beq (z1s S') (z1s S2 + z1b2 M') && Nat.ble S'.length lim.1 && Nat.ble (z1s S') lim.2 with
          | true => some S'
          | false => none
        | none => none
      | _, _ => none) = some S1) : z1Call T dd lim ci hh S2 S1 := by
  match dd with
  | 0 => cases hc
  | 1 => cases hc
  | e0 + 2 =>
    cases hT1 : T[ci]? with
    | none => rw [hT1] at hc; cases hc
    | some M' =>
      rw [hT1] at hc
      dsimp only at hc
      cases hrun : z1x T f (e0 + 1) (S2.length + z1b1 M', z1s S2 + z1b2 M') M' 0 hh [] S2 with
      | none => rw [hrun] at hc; cases hc
      | some S3 =>
        rw [hrun] at hc
        dsimp only at hc
        split at hc
        · rename_i hb
          cases hc
          simp only [Bool.and_eq_true] at hb
          exact ⟨e0 + 1, M', rfl, hT1, hrec (e0 + 1) _ M' hh S2 _ (by omega) (hT _ _ hT1) hrun, Nat.eq_of_beq_eq_true hb.1.1.1, Nat.eq_of_beq_eq_true hb.1.1.2, Nat.le_of_ble_eq_true hb.1.2, Nat.le_of_ble_eq_true hb.2⟩
        · cases hc
theorem z1x_ok (hT : ∀ (ci : Nat) (M' : z1m), T[ci]? = some M' → z1OK T M') (hac : ∀ ty ∈ ([.int, .byte, .boolean, .long] : List FieldType), Cond.arrayClass ty ∈ zgood) : ∀ (f dd : Nat) (lim : Nat × Nat) (M : z1m) (pc th : Nat) (st : List zV) (S S' S0 : List z1c), 1 ≤ dd → z1OK T M → z1x T f dd lim M pc th st S = some S' → z1G dd M lim S0 S' pc th st S
  | 0, dd, lim, M, pc, th, st, S, S', S0, _, _, h => by cases h
  | f + 1, dd, lim, M, pc, th, st, S, S', S0, hdd, hM, h => by
    unfold z1x at h
    split at h
    · rename_i i len hat
      have hk : ∀ pc st S S', (fun pc st S => z1x T f dd lim M pc th st S) pc st S = some S' → z1G dd M lim S0 S' pc th st S := fun pc st S S' q => z1x_ok hT hac f dd lim M pc th st S S' S0 hdd hM q
      cases i <;> first
        | exact z1_push hM hat hk (Or.inl ⟨_, rfl⟩) h
        | exact z1_push hM hat hk (Or.inr (Or.inl ⟨_, rfl⟩)) h
        | exact z1_push hM hat hk (Or.inr (Or.inr (Or.inl ⟨_, rfl⟩))) h
        | exact z1_push hM hat hk (Or.inr (Or.inr (Or.inr (Or.inl ⟨_, rfl⟩)))) h
        | exact z1_push hM hat hk (Or.inr (Or.inr (Or.inr (Or.inr (Or.inl rfl))))) h
        | exact z1_push hM hat hk (Or.inr (Or.inr (Or.inr (Or.inr (Or.inr rfl))))) h
        | exact z1_new hM hat hk h
        | exact z1_newarray hM hat hac hk h
        | exact z1_anewarray hM hat hk h
        | exact z1_multi hM hat (hac _ (by decide)) hk h
        | exact z1_aastore hM hat hk h
        | exact z1_iastore hM hat hk h
        | exact z1_putfield hM hat hk h
        | exact z1_special hT hM hat hdd hk (fun ci hh S2 S1 hc => z1cl_ok hT (fun dd2 lim M' hh S2 S3 hd hM' q => z1x_ok hT hac f dd2 lim M' 0 hh [] S2 S3 S2 hd hM' q) hc) h
        | (exact absurd h (by unfold z1one; simp))
    · cases h
end
