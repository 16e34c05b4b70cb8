section
/-! THE CLAIM OUT OF ONE WALK OF THE LAW'S BODY. Your part is whole_start (and what it stands on); all else here is the same for every law, but numbers. -/
def R_law : String := "OtherDoorLaw"
def lw_P (b : Addr) (xs : List Int32) (args : Array Value) (s : State) : Prop := args = #[.ref b] ∧ s.IntsAt b xs ∧ xs.length ≤ 3072 ∧ (Jvm.Cond.and given_1 narrow_1).before args s = true
def lw_Q (_ : Array Value) (s : State) (o : Outcome) (t : State) : Prop := o = .returned (some (.int 1)) ∧ Framed s o t [] 600000 7302250
def lw_Z (below : List Frame) (a : Array Value) (s : State) : State → Prop := fun t => ∃ o, t.status = .running ∧ Ended t below o ∧ lw_Q a s o t
/-- the law's own end, with 1 on the stack, nothing written that was there before, its room as the claim has it -/
theorem lw_ret {p : Program} {l : Launch} {e : Env} {s : State} {m : MethodId} {below : List Frame} {meth : Method} {c : Code} {b : Nat} (hx : p.tables.exec = Jvm.exec) (hb : c.code = code) (hr : meth.sig.returnType = ret) (hlocks : meth.locks = false) {pc : Nat} {H : Heap} {ls : Array Slot} (hdg : decode code pc = .ok (.ireturn, 1)) : W p l e room_1 s m #[Value.ref b] below meth c H [] 600000 7302250 (lw_Z below #[Value.ref b] s) (F0 m pc ls [.int 1]) := by
  intro T hT X
  obtain ⟨fs, hret, hrun, hended, hW, hframe⟩ := X.leave (v := some (.int 1)) (hlocks := hlocks) (fun h => by rw [hr] at h; cases h)
  have hmeth' : T.vm.method? m = some meth := X.method'
  refine ⟨T.setFrames fs, ?_, .returned (some (.int 1)), hrun, hended, rfl, ⟨_, rfl⟩, hW, hframe⟩
  jvm_step X.here [X.here.top, hx, hb, hdg, hmeth', hr, ret, narrow_b1]
  (try refine ⟨rfl, ?_⟩); (try refine ⟨rfl, ?_⟩)
  first | (intro acts; rw [hret _ acts rfl rfl rfl]) | rw [hret _ _ rfl rfl rfl]
  exact Steps.refl _
/-- what holds at the law's entry: the machine, the code, the tables' words (any of lw_tbl by 'hts w (by decide +kernel)'), the script of L ints xs at the cell b, what the Statement gives of the start (any of its parts by flat_of_before) -/
def lw_At (p : Program) (s : State) (m : MethodId) (meth : Method) (c : Code) (b L : Nat) (xs : Nat → Int32) : Prop :=
  p.tables.exec = Jvm.exec ∧ c.code = code ∧ meth.sig.returnType = ret ∧ c.maxLocals = 4 ∧ s.vm.findClass R_law = some m.cls ∧ (∀ w ∈ lw_tbl, w.before #[Value.ref b] s = true) ∧ va_X b L xs s s.heap ∧ b < s.heap.size ∧ meth.locks = false ∧ (Jvm.Cond.and given_1 narrow_1).before #[Value.ref b] s = true
section
variable {p : Program} {l : Launch} {e : Env} {s : State} {m : MethodId} {args : Array Value} {below : List Frame} {meth : Method} {c : Code} {H : Heap} {locs : List Loc} {cells slots : Nat} {Q : State → Prop} {E : zEnv} {lj : Array Slot} {rest : List Value}
/-- the law makes an object -/
theorem law_new {ci idx pc : Nat} {q : vw_C} {S : List z1c} (C : CallFix p m c code 4 s args zgood RL) (hOn : z1On E s) (w1 : vwCl[ci]? = some q) (hci : ci < 13) (w2 : Cond.classLink RL idx q.1 ∈ zgood) (w3 : Cond.instantiable q.1 q.2.2 ∈ zgood) (w4 : Cond.initialized q.1 ∈ zgood) (hc : cells + 1 ≤ 600000) (hs : slots + z1nf ci ≤ 7302250) (hd : decode code pc = .ok (.new idx, 3)) (hH : z1H E S H) (hS : va_S (z1A E) s.heap H locs)
    (k : ∀ H1 : Heap, z1H E (S ++ [(ci, z1nf ci, [], [])]) H1 → va_S (z1A E) s.heap H1 locs → W p l e room_1 s m args below meth c H1 locs (cells + 1) (slots + z1nf ci) Q (F0 m (pc + 3) lj (.ref (zEb E + S.length) :: rest))) : W p l e room_1 s m args below meth c H locs cells slots Q (F0 m pc lj rest) := by
  obtain ⟨hx, hb, hml, hown, hts⟩ := C
  obtain ⟨hnf, ty, hty, hdf⟩ := z1def ci q w1
  have hKn := hOn.1.1 ci q w1
  refine W.newcK (g := F0 m pc lj rest) hx hb hown (hts _ w2) (hts _ w3) (hts _ w4) rfl hd hc (by rw [← hnf]; exact hs) hKn.2.1 hH.1 (fun H1 kC hkC e1 z1 o1 => ?_)
  rw [← hH.1] at e1 o1 z1
  have hH1 : z1H E (S ++ [(ci, z1nf ci, [], [])]) H1 := by
    refine z1H_push hH z1 o1 ?_
    unfold z1el
    rw [if_pos (show ci < 100 by omega)]
    refine ⟨q, w1, (u_born ty hts hty.1 hKn hkC e1 hty.2.1).to (fun j hj => ?_)⟩
    rw [(hdf j hj).1]
    unfold vp_V
    rw [List.getD_eq_getElem?_getD, List.getElem?_map, List.getElem?_range (show j < z1nf ci by rw [hnf]; exact hj)]
    show _ = z1fv E (ci, z1nf ci, [], []) j
    unfold z1fv
    dsimp only
    split <;> rfl
  have hg := k H1 hH1 (z1S_push hS z1 o1)
  rw [hnf] at hg
  exact hg
/-- the law calls a constructor -/
theorem law_init {h idx pc : Nat} {M' : z1m} {S S1 : List z1c} (C : CallFix p m c code 4 s args zgood RL) (hOn : z1On E s) (hM' : z1OK z1T M') (hMet : Met l (zKy (z1Mk M')) (zW (z1Mk M')) (z1Rm 4 (z1b1 M') (z1b2 M')) (z1Pc E h S) (z1Qc E S1) (z1b1 M') (z1b2 M') (z1A E)) (w1 : Cond.methodLink RL idx (zKy (z1Mk M')) ∈ zgood) (hd : decode code pc = .ok (.invokespecial idx, 3)) (hlj : lj.size = 4) (hsm : (rest.map fun v => v.category).sum ≤ 8) (hc : cells + z1b1 M' ≤ 600000) (hs : slots + z1b2 M' ≤ 7302250) (hH : z1H E S H) (hS : va_S (z1A E) s.heap H locs)
    (k : ∀ (H1 : Heap) (locs1 : List Loc), z1H E S1 H1 → va_S (z1A E) s.heap H1 locs1 → W p l e room_1 s m args below meth c H1 locs1 (cells + z1b1 M') (slots + z1b2 M') Q (F0 m (pc + 3) lj rest)) : W p l e room_1 s m args below meth c H locs cells slots Q (F0 m pc lj (.ref (zEb E + h) :: rest)) := by
  obtain ⟨k1, k2, k3, k4, k5, k6, k7, k8, k9, k10, k11⟩ := hM'.2.2.2.2.1
  have hts := C.2.2.2.2
  have hG : GoodIn zgood (zW (z1Mk M')) := by
    intro w hw
    have : w ∈ zgood := by
      unfold zW at hw
      rcases List.mem_cons.mp hw with rfl | hw
      · rw [k8, k9]; exact k1
      · exact hw
    exact ⟨this, zgood_in this⟩
  have hrun := va_runI (b := zEb E + h) (As := []) (rest := rest) (g := F0 m pc lj (.ref (zEb E + h) :: rest)) (R := room_1) (H := H) (locs := locs) (cells := cells) (slots := slots) (e := e) (below := below) (meth := meth) C hMet (cwI (ws' := zgood) (maxL := 1) 0 hts hG (by unfold zW; rw [k8, k9]) rfl rfl (hts _ k3) (hts _ w1) (hts _ k2) k7 ⟨k4, k5, k6⟩ ⟨Nat.le_of_ble_eq_true rfl, Nat.le_of_ble_eq_true rfl⟩) ⟨z1Pc_blind E h S, fun U hU hW => ⟨rfl, hOn.warm hW, by rw [hU, hH.1]; omega, by rw [hU]; exact hH⟩⟩ rfl rfl hlj rfl (lv_room hsm) hd ⟨hc, hs⟩
  intro T0 hT0 X
  obtain ⟨v, st₀, t, T', L, h0, X', hLc, e1, e2, ⟨⟨hv, hh1⟩, hz, hkp⟩, stp⟩ := hrun T0 hT0 X
  cases hv
  rw [h0] at hz hkp
  have hg2 := k T'.heap (locs ++ L) (by rw [e1]; exact hh1)
    ⟨Nat.le_trans hS.1 (by rw [e1]; exact hz), fun q h1 h2 => by rw [e1, hkp q (Nat.lt_of_lt_of_le h1 hS.1) h2]; exact hS.2.1 q h1 h2, fun q hq => by
      rcases List.mem_append.mp hq with h | h
      · exact hS.2.2 q h
      · exact hLc q h⟩
  obtain ⟨t2, a1, b1⟩ := hg2 T' rfl X'
  exact ⟨t2, stp t2 a1, b1⟩
end
theorem law_d0 : decode code 0 = .ok (.new 7, 3) := by decide +kernel
theorem law_d3 : decode code 3 = .ok (.dup, 1) := by decide +kernel
theorem law_d4 : decode code 4 = .ok (.invokespecial 9, 3) := by decide +kernel
theorem law_d7 : decode code 7 = .ok (.astore_n 1, 1) := by decide +kernel
theorem law_d8 : decode code 8 = .ok (.new 10, 3) := by decide +kernel
theorem law_d11 : decode code 11 = .ok (.dup, 1) := by decide +kernel
theorem law_d12 : decode code 12 = .ok (.invokespecial 12, 3) := by decide +kernel
theorem law_d15 : decode code 15 = .ok (.astore_n 2, 1) := by decide +kernel
theorem law_d16 : decode code 16 = .ok (.iconst 0, 1) := by decide +kernel
theorem law_d17 : decode code 17 = .ok (.istore_n 3, 1) := by decide +kernel
/-- THE LAW, from its entry -/
theorem whole_start {p : Program} {e : Env} {s : State} {m : MethodId} {below : List Frame} {meth : Method} {c : Code} (l : Launch) (hflags : l.flags = flags0) {b L : Nat} {xs : Nat → Int32} (hL : L ≤ 3072) (C0 : lw_At p s m meth c b L xs) : W p l e room_1 s m #[Value.ref b] below meth c s.heap [] 0 0 (lw_Z below #[Value.ref b] s) (entryFrame m ([Value.ref b] : List Value).toArray 4) := by
  obtain ⟨hx, hb, hr, hml, hown, hts, hX, hbl, hlocks, hgv⟩ := id C0
  obtain ⟨E, e1, e2, e3, e4, hOn, hOn1⟩ := z2on hts hgv hX hbl hL
  have hg : ∀ w ∈ zgood, w.before #[Value.ref b] s = true := fun w hw => hts w (List.mem_filter.mp hw).1
  have hown : s.vm.findClass RL = some m.cls := hown
  have C : CallFix p m c code 4 s #[Value.ref b] zgood RL := ⟨hx, hb, hml, hown, hg⟩
  have hS : va_S (z1A E) s.heap s.heap [] := va_S.rf
  have hH : z1H E [] s.heap := ⟨by rw [e1]; rfl, fun k q h => by simp [z1ws] at h⟩
  have hl := lv_entry ([.ref b]) (n := 4) (Nat.le_of_ble_eq_true rfl)
  rw [lg_entry_eq]
  generalize (lg_sl ([.ref b]) ++ List.replicate (4 - (lg_sl ([.ref b])).length) Slot.unset).toArray = ls at hl ⊢
  have hl : lv_has ls 4 [(0, .ref b)] := hl
  refine law_new (ci := 11) (idx := 7) (S := []) C hOn1 rfl (by decide) (zwb_of (p := 1021) (by decide +kernel)) (zwb_of (p := 1022) (by decide +kernel)) (zwb_of (p := 1001) (by decide +kernel)) (Nat.le_of_ble_eq_true rfl) (Nat.le_of_ble_eq_true rfl) law_d0 hH hS (fun H1 hH hS => ?_)
  have hH : z1H E z1S0 H1 := hH
  refine W.widen (k := 1) (n := 13) (Nat.le_of_ble_eq_true rfl) (Nat.le_of_ble_eq_true rfl) ?_
  refine lv_dup hx hb law_d3 rfl ?_
  refine law_init (M' := z1T11) (h := 0) (S := z1S0) (S1 := z1S1) C hOn1 z1T11_ok (z1_od l E) (zwb_of (p := 1023) (by decide +kernel)) law_d4 hl.1 (Nat.le_of_ble_eq_true rfl) (Nat.le_of_ble_eq_true rfl) (Nat.le_of_ble_eq_true rfl) hH hS (fun H2 locs2 hH hS => ?_)
  refine W.widen (k := 122) (n := 7108) (Nat.le_of_ble_eq_true rfl) (Nat.le_of_ble_eq_true rfl) ?_
  refine lv_astore_n (x := zEb E + 0) (lv' := [(1, .ref (zEb E + 0)), (0, .ref b)]) hx hb law_d7 rfl hl (by decide) rfl (fun ls hl => ?_)
  refine law_new (ci := 12) (idx := 10) (S := z1S1) C hOn1 rfl (by decide) (zwb_of (p := 5131) (by decide +kernel)) (zwb_of (p := 5132) (by decide +kernel)) (zwb_of (p := 1013) (by decide +kernel)) (Nat.le_of_ble_eq_true rfl) (Nat.le_of_ble_eq_true rfl) law_d8 hH hS (fun H3 hH hS => ?_)
  have hH : z1H E z1S2 H3 := hH
  have e122 : z1S1.length = 122 := z1l1.1
  rw [e122]
  refine W.widen (k := 123) (n := 7152) (Nat.le_of_ble_eq_true rfl) (Nat.le_of_ble_eq_true rfl) ?_
  refine lv_dup hx hb law_d11 rfl ?_
  refine law_init (M' := z1T12) (h := 122) (S := z1S2) (S1 := z1S3) C hOn1 z1T12_ok (z1_mo l E) (zwb_of (p := 5133) (by decide +kernel)) law_d12 hl.1 (Nat.le_of_ble_eq_true rfl) (Nat.le_of_ble_eq_true rfl) (Nat.le_of_ble_eq_true rfl) hH hS (fun H4 locs4 hH hS => ?_)
  refine W.widen (k := 146) (n := 38198) (Nat.le_of_ble_eq_true rfl) (Nat.le_of_ble_eq_true rfl) ?_
  refine lv_astore_n (x := zEb E + 122) (lv' := [(2, .ref (zEb E + 122)), (1, .ref (zEb E + 0)), (0, .ref b)]) hx hb law_d15 rfl hl (by decide) rfl (fun ls hl => ?_)
  refine lv_iconst (v := 0) hx hb law_d16 (by decide) ?_
  refine lv_istore_n (lv' := [(3, .int 0), (2, .ref (zEb E + 122)), (1, .ref (zEb E + 0)), (0, .ref b)]) hx hb law_d17 rfl hl (by decide) rfl (fun ls hl => ?_)
  refine va_forget (fun q hq => by have := hS.2.2 q hq; unfold z1A at this; rw [e1] at this; exact this) ?_
  have hS0 : va_S (zA E) s.heap H4 [] := ⟨hS.1, fun q h1 h2 => hS.2.1 q h1 (fun z => by unfold z1A at z; rw [e1] at z; exact Nat.lt_irrefl _ (Nat.lt_of_lt_of_le h1 z)), fun l h => by cases h⟩
  have hLo : zLo E 4 [(5, 0), (2, Int.ofNat 0), (2, Int.ofNat 122), (0, ((0 : Nat) : Int))] ls := by
    refine ⟨hl.1, by decide, hl.2.1, fun i v hv _ => ?_⟩
    have hi : i < 4 := (List.getElem?_eq_some_iff.mp hv).1
    have : i = 0 ∨ i = 1 ∨ i = 2 ∨ i = 3 := by omega
    rcases this with rfl | rfl | rfl | rfl
    · cases hv
      show ls[0]? = some (.val (.ref (zEs E)))
      rw [e2]
      exact lv_at hl 3 rfl
    · cases hv
      exact lv_at hl 2 rfl
    · cases hv
      exact lv_at hl 1 rfl
    · cases hv
      exact lv_at hl 0 rfl
  have hok : ∀ v ∈ ([(5, 0), (2, Int.ofNat 0), (2, Int.ofNat 122), (0, ((0 : Nat) : Int))] : List zV), zok v := by
    intro v hv
    simp only [List.mem_cons, List.not_mem_nil, or_false] at hv
    rcases hv with rfl | rfl | rfl | rfl
    · exact trivial
    · exact trivial
    · exact trivial
    · show zI ((0 : Nat) : Int)
      unfold zI
      omega
  refine law_loop (L := L) (xs := fun j => (xs j).toInt) hL L 0 zm0 (by omega) Inv0 p l e room_1 s m #[Value.ref b] below meth c H4 [] 146 38198 (lw_Z below #[Value.ref b] s) E ls ⟨hx, hb, hml, hown, hg, Nat.le_of_ble_eq_true rfl, Nat.le_of_ble_eq_true rfl, hOn, Or.inr ?_⟩ (Nat.le_of_ble_eq_true rfl) (Nat.le_of_ble_eq_true rfl) (z1end hH) hS0 hLo hok (fun v hv => by cases hv) ?_
  · show (L + 1, fun j => (xs j).toInt) = (zEl E + 1, fun j => (zEx E j).toInt)
    rw [e3, e4]
  · intro x mem' H' locs' pc lj i hq hok' hbz hHp hS' hd hret
    have hq : x = 1 := hq
    subst hq
    have hi : i = .ireturn := by
      rcases hret with ⟨h, -⟩ | ⟨h, -⟩ | ⟨-, h⟩
      · exact absurd (show (some FieldType.boolean : Option FieldType) = none from h) (by simp)
      · exact absurd (show (some FieldType.boolean : Option FieldType) = some FieldType.long from h) (by simp)
      · exact h
    subst hi
    refine va_forget (fun q hq => by have := (hS'.2.2 q hq).1; rw [e1] at this; exact this) (W.widen (k := 600000) (n := 7302250) (Nat.le_of_ble_eq_true rfl) (Nat.le_of_ble_eq_true rfl) ?_)
    exact lw_ret hx hb hr hlocks hd
end
