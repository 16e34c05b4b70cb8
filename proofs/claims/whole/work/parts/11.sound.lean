section
variable {d : Nat} {M : zMt} {Q : Int → zMem → Prop} {pc : Nat} {ls st : List zV} {mem : zMem}
/-- what must hold of an instruction's numbers and length -/
def zlq (pc : Nat) (i : Instr) (len : Nat) : Bool := match i with
  | .iconst n => Nat.beq len 1 && decide (-2147483648 ≤ n) && decide (n < 2147483648)
  | .bipush n => Nat.beq len 2 && decide (-128 ≤ n) && decide (n < 128)
  | .sipush n => Nat.beq len 3 && decide (-32768 ≤ n) && decide (n < 32768)
  | .goto o => Nat.beq len 3 && decide (0 ≤ (pc : Int) + o)
  | .ifCond _ o => Nat.beq len 3 && decide (0 ≤ (pc : Int) + o)
  | .if_icmp _ o => Nat.beq len 3 && decide (0 ≤ (pc : Int) + o)
  | .tableswitch df lo hi os => decide (0 ≤ (pc : Int) + df) && os.toList.all (fun o => decide (0 ≤ (pc : Int) + o)) && decide ((os.size : Int) = hi - lo + 1)
  | .iload _ | .lload _ | .aload _ | .istore _ | .astore _ | .lstore _ | .ldc _ => Nat.beq len 2
  | .iinc _ _ | .getfield _ | .putfield _ | .ldc_w _ | .ldc2_w _ | .getstatic _ | .invokevirtual _ | .invokestatic _ => Nat.beq len 3
  | _ => Nat.beq len 1
/-- a method's tables are right -/
def zOK (M : zMt) : Prop := (∀ c ∈ zMc M, decode (zKb (zMk M)) c.1 = .ok (c.2.1, c.2.2) ∧ zlq c.1 c.2.1 c.2.2 = true) ∧ (∀ f ∈ zMf M, zFf (zMo M) f) ∧ (∀ c ∈ zMm M, zMf1 (zMo M) c) ∧ (∀ c ∈ zMn M, zNf (zMo M) c) ∧ (zKy (zMk M)).cls = zMo M
theorem zone_ok (hM : zOK M) {i : Instr} {len : Nat} (hat : zat (zMc M) pc = some (i, len)) {k : Nat → List zV → List zV → zMem → Prop} (hk : ∀ pc ls st mem, k pc ls st mem → zG d M pc ls st mem Q) (h : zone d M Q i pc ls st mem k) : zG d M pc ls st mem Q := by
  obtain ⟨hd, hq⟩ := hM.1 _ (zat_mem hat)
  dsimp only at hd hq
  cases i
  case lconst =>
    have e := Nat.eq_of_beq_eq_true hq
    subst e
    exact zs_lconst hd hk h
  case iload_n =>
    have e := Nat.eq_of_beq_eq_true hq
    subst e
    exact zs_iload_n hd hk h
  case iload =>
    have e := Nat.eq_of_beq_eq_true hq
    subst e
    exact zs_iload hd hk h
  case lload_n =>
    have e := Nat.eq_of_beq_eq_true hq
    subst e
    exact zs_lload_n hd hk h
  case lload =>
    have e := Nat.eq_of_beq_eq_true hq
    subst e
    exact zs_lload hd hk h
  case aload_n =>
    have e := Nat.eq_of_beq_eq_true hq
    subst e
    exact zs_aload_n hd hk h
  case aload =>
    have e := Nat.eq_of_beq_eq_true hq
    subst e
    exact zs_aload hd hk h
  case istore_n =>
    have e := Nat.eq_of_beq_eq_true hq
    subst e
    exact zs_istore_n hd hk h
  case istore =>
    have e := Nat.eq_of_beq_eq_true hq
    subst e
    exact zs_istore hd hk h
  case astore_n =>
    have e := Nat.eq_of_beq_eq_true hq
    subst e
    exact zs_astore_n hd hk h
  case astore =>
    have e := Nat.eq_of_beq_eq_true hq
    subst e
    exact zs_astore hd hk h
  case lstore_n =>
    have e := Nat.eq_of_beq_eq_true hq
    subst e
    exact zs_lstore_n hd hk h
  case lstore =>
    have e := Nat.eq_of_beq_eq_true hq
    subst e
    exact zs_lstore hd hk h
  case iinc =>
    have e := Nat.eq_of_beq_eq_true hq
    subst e
    exact zs_iinc hd hk h
  case iadd =>
    have e := Nat.eq_of_beq_eq_true hq
    subst e
    exact zs_iadd hd hk h
  case isub =>
    have e := Nat.eq_of_beq_eq_true hq
    subst e
    exact zs_isub hd hk h
  case imul =>
    have e := Nat.eq_of_beq_eq_true hq
    subst e
    exact zs_imul hd hk h
  case iand =>
    have e := Nat.eq_of_beq_eq_true hq
    subst e
    exact zs_iand hd hk h
  case ior =>
    have e := Nat.eq_of_beq_eq_true hq
    subst e
    exact zs_ior hd hk h
  case ixor =>
    have e := Nat.eq_of_beq_eq_true hq
    subst e
    exact zs_ixor hd hk h
  case ishl =>
    have e := Nat.eq_of_beq_eq_true hq
    subst e
    exact zs_ishl hd hk h
  case ishr =>
    have e := Nat.eq_of_beq_eq_true hq
    subst e
    exact zs_ishr hd hk h
  case iushr =>
    have e := Nat.eq_of_beq_eq_true hq
    subst e
    exact zs_iushr hd hk h
  case idiv =>
    have e := Nat.eq_of_beq_eq_true hq
    subst e
    exact zs_idiv hd hk h
  case irem =>
    have e := Nat.eq_of_beq_eq_true hq
    subst e
    exact zs_irem hd hk h
  case ineg =>
    have e := Nat.eq_of_beq_eq_true hq
    subst e
    exact zs_ineg hd hk h
  case i2b =>
    have e := Nat.eq_of_beq_eq_true hq
    subst e
    exact zs_i2b hd hk h
  case i2s =>
    have e := Nat.eq_of_beq_eq_true hq
    subst e
    exact zs_i2s hd hk h
  case i2c =>
    have e := Nat.eq_of_beq_eq_true hq
    subst e
    exact zs_i2c hd hk h
  case i2l =>
    have e := Nat.eq_of_beq_eq_true hq
    subst e
    exact zs_i2l hd hk h
  case l2i =>
    have e := Nat.eq_of_beq_eq_true hq
    subst e
    exact zs_l2i hd hk h
  case ladd =>
    have e := Nat.eq_of_beq_eq_true hq
    subst e
    exact zs_ladd hd hk h
  case lmul =>
    have e := Nat.eq_of_beq_eq_true hq
    subst e
    exact zs_lmul hd hk h
  case land =>
    have e := Nat.eq_of_beq_eq_true hq
    subst e
    exact zs_land hd hk h
  case lor =>
    have e := Nat.eq_of_beq_eq_true hq
    subst e
    exact zs_lor hd hk h
  case lshl =>
    have e := Nat.eq_of_beq_eq_true hq
    subst e
    exact zs_lshl hd hk h
  case lshr =>
    have e := Nat.eq_of_beq_eq_true hq
    subst e
    exact zs_lshr hd hk h
  case lushr =>
    have e := Nat.eq_of_beq_eq_true hq
    subst e
    exact zs_lushr hd hk h
  case lcmp =>
    have e := Nat.eq_of_beq_eq_true hq
    subst e
    exact zs_lcmp hd hk h
  case dup =>
    have e := Nat.eq_of_beq_eq_true hq
    subst e
    exact zs_dup hd hk h
  case dup2 =>
    have e := Nat.eq_of_beq_eq_true hq
    subst e
    exact zs_dup2 hd hk h
  case pop =>
    have e := Nat.eq_of_beq_eq_true hq
    subst e
    exact zs_pop hd hk h
  case iaload =>
    have e := Nat.eq_of_beq_eq_true hq
    subst e
    exact zs_iaload hd hk h
  case baload =>
    have e := Nat.eq_of_beq_eq_true hq
    subst e
    exact zs_baload hd hk h
  case laload =>
    have e := Nat.eq_of_beq_eq_true hq
    subst e
    exact zs_laload hd hk h
  case aaload =>
    have e := Nat.eq_of_beq_eq_true hq
    subst e
    exact zs_aaload hd hk h
  case iastore =>
    have e := Nat.eq_of_beq_eq_true hq
    subst e
    exact zs_iastore hd hk h
  case bastore =>
    have e := Nat.eq_of_beq_eq_true hq
    subst e
    exact zs_bastore hd hk h
  case lastore =>
    have e := Nat.eq_of_beq_eq_true hq
    subst e
    exact zs_lastore hd hk h
  case arraylength =>
    have e := Nat.eq_of_beq_eq_true hq
    subst e
    exact zs_arraylength hd hk h
  case iconst n =>
    unfold zlq at hq
    simp only [Bool.and_eq_true, decide_eq_true_eq] at hq
    obtain ⟨⟨e, h1⟩, h2⟩ := hq
    have e := Nat.eq_of_beq_eq_true e
    subst e
    exact zs_iconst hd ⟨h1, h2⟩ hk h
  case bipush n =>
    unfold zlq at hq
    simp only [Bool.and_eq_true, decide_eq_true_eq] at hq
    obtain ⟨⟨e, h1⟩, h2⟩ := hq
    have e := Nat.eq_of_beq_eq_true e
    subst e
    exact zs_bipush hd ⟨h1, h2⟩ hk h
  case sipush n =>
    unfold zlq at hq
    simp only [Bool.and_eq_true, decide_eq_true_eq] at hq
    obtain ⟨⟨e, h1⟩, h2⟩ := hq
    have e := Nat.eq_of_beq_eq_true e
    subst e
    exact zs_sipush hd ⟨h1, h2⟩ hk h
  case goto o =>
    unfold zlq at hq
    simp only [Bool.and_eq_true, decide_eq_true_eq] at hq
    obtain ⟨e, h1⟩ := hq
    have e := Nat.eq_of_beq_eq_true e
    subst e
    exact zs_goto hd h1 hk h
  case ifCond c o =>
    unfold zlq at hq
    simp only [Bool.and_eq_true, decide_eq_true_eq] at hq
    obtain ⟨e, h1⟩ := hq
    have e := Nat.eq_of_beq_eq_true e
    subst e
    exact zs_if hd h1 hk h
  case if_icmp c o =>
    unfold zlq at hq
    simp only [Bool.and_eq_true, decide_eq_true_eq] at hq
    obtain ⟨e, h1⟩ := hq
    have e := Nat.eq_of_beq_eq_true e
    subst e
    exact zs_icmp hd h1 hk h
  case tableswitch df lo hi os =>
    unfold zlq at hq
    simp only [Bool.and_eq_true, decide_eq_true_eq, List.all_eq_true] at hq
    obtain ⟨⟨h1, h2⟩, h3⟩ := hq
    exact zs_switch hd h1 (fun o ho => h2 o (by simpa using ho)) h3 hk h
  case getfield =>
    have e := Nat.eq_of_beq_eq_true hq
    subst e
    exact zs_getfield hd hM.2.1 hk h
  case putfield =>
    have e := Nat.eq_of_beq_eq_true hq
    subst e
    exact zs_putfield hd hM.2.1 hk h
  case invokevirtual =>
    have e := Nat.eq_of_beq_eq_true hq
    subst e
    exact zs_invokevirtual hd hM.2.2.1 hk h
  case invokestatic =>
    have e := Nat.eq_of_beq_eq_true hq
    subst e
    exact zs_invokestatic hd hM.2.2.1 hk h
  case ldc_w =>
    have e := Nat.eq_of_beq_eq_true hq
    subst e
    exact zs_ldc_w hd hM.2.2.2.1 hk h
  case ldc2_w =>
    have e := Nat.eq_of_beq_eq_true hq
    subst e
    exact zs_ldc2_w hd hM.2.2.2.1 hk h
  case ldc =>
    have e := Nat.eq_of_beq_eq_true hq
    subst e
    exact zs_ldc hd hM.2.2.2.1 hk h
  case getstatic =>
    have e := Nat.eq_of_beq_eq_true hq
    subst e
    exact zs_getstatic hd hM.2.2.2.1 hk h
  case ireturn =>
    have e := Nat.eq_of_beq_eq_true hq
    subst e
    exact zs_ireturn hd h
  case lreturn =>
    have e := Nat.eq_of_beq_eq_true hq
    subst e
    exact zs_lreturn hd h
  case return_ =>
    have e := Nat.eq_of_beq_eq_true hq
    subst e
    exact zs_return hd h
  all_goals exact False.elim h
theorem zseg_ok (hM : zOK M) {cuts : List Nat} : ∀ (f pc : Nat) (ls st : List zV) (mem : zMem), zseg d M Q cuts f pc ls st mem → zG d M pc ls st mem Q
  | 0, _, _, _, _, h => h
  | f + 1, pc, ls, st, mem, h => by
    unfold zseg at h
    split at h
    · exact h
    · split at h
      · rename_i i len hat
        exact zone_ok hM hat (zseg_ok hM f) h
      · exact h.elim
theorem zent_ok (hM : zOK M) {cuts : List Nat} {f pc : Nat} {ls st : List zV} {mem : zMem} (h : zent d M Q cuts f pc ls st mem) : zG d M pc ls st mem Q := by
  unfold zent at h
  split at h
  · rename_i i len hat
    exact zone_ok hM hat (zseg_ok hM f) h
  · exact h.elim
/-- the locals with which a method begins -/
def zla : List zV → List zV
  | [] => []
  | (1, x) :: r => (1, x) :: (9, 0) :: zla r
  | (t, x) :: r => (t, x) :: zla r
def zl0 (n : Nat) (av : List zV) : List zV := zla av ++ List.replicate (n - (zla av).length) (9, 0)
theorem zla_mem (E : zEnv) : ∀ (av : List zV) (i o : Nat) (v : zV), (zla av)[i]? = some v → v.1 < 9 → (o + i, zv E v) ∈ lv_args o (av.map (zv E))
  | [], i, o, v, h, _ => by simp [zla] at h
  | (t, x) :: r, i, o, v, h, hv => by
    rw [List.map_cons]
    unfold lv_args
    rw [zv_cat]
    by_cases ht : t = 1
    · subst ht
      rw [zla] at h
      match i, h with
      | 0, h =>
        cases (show (1, x) = v by simpa using h)
        exact List.mem_cons_self
      | 1, h =>
        cases (show ((9 : Nat), (0 : Int)) = v by simpa using h)
        exact absurd hv (by decide)
      | i + 2, h =>
        have := zla_mem E r i (o + 2) v (by simpa using h) hv
        refine List.mem_cons_of_mem _ ?_
        rw [show o + (i + 2) = o + 2 + i by omega]
        exact this
    · have hz : zla ((t, x) :: r) = (t, x) :: zla r := by
        rw [zla]
        intro e
        exact ht e
      rw [hz] at h
      have hc : zcat t = 1 := by
        unfold zcat
        split
        · exact absurd rfl ht
        · rfl
      match i, h with
      | 0, h =>
        cases (show (t, x) = v by simpa using h)
        exact List.mem_cons_self
      | i + 1, h =>
        have := zla_mem E r i (o + 1) v (by simpa using h) hv
        refine List.mem_cons_of_mem _ ?_
        show _ ∈ lv_args (if zcat t = 2 then o + 2 else o + 1) _
        rw [hc, if_neg (by decide), show o + (i + 1) = o + 1 + i by omega]
        exact this
theorem zla_ok : ∀ {av : List zV}, (∀ v ∈ av, zok v) → ∀ v ∈ zla av, zok v
  | [], _, v, h => by cases h
  | (t, x) :: r, ha, v, h => by
    by_cases ht : t = 1
    · subst ht
      rw [zla] at h
      rcases List.mem_cons.mp h with rfl | h
      · exact zoh ha
      · rcases List.mem_cons.mp h with rfl | h
        · trivial
        · exact zla_ok (zot ha) v h
    · have hz : zla ((t, x) :: r) = (t, x) :: zla r := by
        rw [zla]
        intro e
        exact ht e
      rw [hz] at h
      rcases List.mem_cons.mp h with rfl | h
      · exact zoh ha
      · exact zla_ok (zot ha) v h
theorem zla_len (E : zEnv) : ∀ av : List zV, (lg_sl (av.map (zv E))).length = (zla av).length
  | [] => rfl
  | (t, x) :: r => by
    have ih := zla_len E r
    unfold lg_sl at ih ⊢
    rw [List.map_cons, List.flatMap_cons, List.length_append, ih, zv_cat]
    by_cases ht : t = 1
    · subst ht
      rw [zla]
      simp [zcat]
      omega
    · have hz : zla ((t, x) :: r) = (t, x) :: zla r := by
        rw [zla]
        intro e
        exact ht e
      have hc : zcat t = 1 := by
        unfold zcat
        split
        · exact absurd rfl ht
        · rfl
      rw [hz]
      simp [hc]
      omega
/-- A METHOD's CONTRACT, from the rest of it at its entry -/
theorem zC_of (hM : zOK M) {av : List zV} (hpl : plainName (zMo M) = true) (hn : (zla av).length ≤ zKl (zMk M)) (hscr : (zMx M).1 = 0) (hr : zKr (zMk M) = none ∨ zKr (zMk M) = some .int ∨ zKr (zMk M) = some .boolean ∨ zKr (zMk M) = some .long) (h : zG d M 0 (zl0 (zKl (zMk M)) av) [] mem Q) : zC d (zMk M) av mem Q := by
  intro l E d' hd'
  refine Met.ofW (cc := zKb (zMk M)) (maxL := zKl (zMk M)) (ret := zKr (zMk M)) (by rw [hM.2.2.2.2]; exact hpl) rfl ?_
  intro p e s m args below meth c s₁ B hml hv
  obtain ⟨rfl, hav, hOn, hH⟩ := hv
  have hx := B.exec
  have hb := B.bytes
  have hret := B.returns
  have hts := atoms_spec (ws := zW (zMk M)) B.pre
  have hown : s.vm.findClass (zKy (zMk M)).cls = some m.cls := findClass_of_methodNamed B.named
  have hlocks := B.notSynchronized
  rw [hM.2.2.2.2] at hown
  have hl := lv_entry (av.map (zv E)) (n := zKl (zMk M)) (by rw [zla_len]; exact hn)
  rw [lg_entry_eq]
  generalize (lg_sl (av.map (zv E)) ++ List.replicate (zKl (zMk M) - (lg_sl (av.map (zv E))).length) Slot.unset).toArray = lj at hl ⊢
  refine h p l e _ s m _ below meth c _ [] 0 0 _ E lj ⟨hx, hb, hml, hown, fun w hw => hts w (List.mem_cons_of_mem _ hw), hd', ?_, hOn, Or.inl hscr⟩ (Nat.zero_le _) (Nat.zero_le _) hH va_S.rf ?_ ?_ (fun v hv => by cases hv) ?_
  · show 100 * d ≤ 100 * d'
    omega
  · refine ⟨hl.1, ?_, hl.2.1, fun i v hi hv => ?_⟩
    · unfold zl0
      rw [List.length_append, List.length_replicate]
      omega
    · unfold zl0 at hi
      by_cases hlt : i < (zla av).length
      · rw [List.getElem?_append_left hlt] at hi
        have := zla_mem E av i 0 v hi hv
        rw [Nat.zero_add] at this
        exact hl.2.2 _ this
      · rw [List.getElem?_append_right (by omega)] at hi
        have := List.eq_of_mem_replicate (List.mem_of_getElem? hi)
        subst this
        exact absurd hv (by decide)
  · intro v hv
    unfold zl0 at hv
    rcases List.mem_append.mp hv with hv | hv
    · exact zla_ok hav v hv
    · have := List.eq_of_mem_replicate hv
      subst this
      trivial
  · intro x mem' H' locs' pc lj i hQ hok hbo hH' hS' hdec hi
    rcases hi with ⟨h1, rfl⟩ | ⟨h1, rfl⟩ | ⟨h1 | h1, rfl⟩
    · rw [h1] at hret hok ⊢
      exact W.vret hx hb hret (fun t ht _ => ⟨⟨x, mem', rfl, hok, hQ, by rw [ht]; exact hH'⟩, hS'.F ht⟩) hS'.2.2 hdec
    · rw [h1] at hret hok ⊢
      exact W.lret hx hb hret (fun t ht _ => ⟨⟨x, mem', rfl, hok, hQ, by rw [ht]; exact hH'⟩, hS'.F ht⟩) hS'.2.2 hdec
    · rw [h1] at hret hok ⊢
      exact W.iret hx hb hret (fun t ht _ => ⟨⟨x, mem', rfl, hok, hQ, by rw [ht]; exact hH'⟩, hS'.F ht⟩) hS'.2.2 hdec
    · have hb01 := hbo h1
      rw [h1] at hret hok ⊢
      exact W.zret hx hb hret (zbool hb01).1 (fun t ht _ => ⟨⟨x, mem', rfl, hok, hQ, by rw [ht]; exact hH'⟩, hS'.F ht⟩) hS'.2.2 hdec
theorem zC.mono {d d' : Nat} {K : zKey} {av : List zV} (h : zC d K av mem Q) (hd : d ≤ d') : zC d' K av mem Q := fun l E e he => h l E e (Nat.le_trans hd he)
/-- what is in range may be used -/
theorem zG.rg (h : (∀ v ∈ ls, zok v) → (∀ v ∈ st, zok v) → zrg mem → zG d M pc ls st mem Q) : zG d M pc ls st mem Q :=
  fun p l e R s m args below meth c H locs cells slots Qf E lj C hc hs hH hS hL hl hst hR => h hl hst hH.1 p l e R s m args below meth c H locs cells slots Qf E lj C hc hs hH hS hL hl hst hR
theorem zG.post {Q' : Int → zMem → Prop} (h : zG d M pc ls st mem Q') (hq : ∀ x m', Q' x m' → Q x m') : zG d M pc ls st mem Q :=
  fun p l e R s m args below meth c H locs cells slots Qf E lj C hc hs hH hS hL hl hst hR => h p l e R s m args below meth c H locs cells slots Qf E lj C hc hs hH hS hL hl hst (fun x mem' H' locs' pc lj i a => hR x mem' H' locs' pc lj i (hq _ _ a))
end
