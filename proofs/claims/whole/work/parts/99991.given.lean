section
/-! The law's entry: what it is given. -/
variable {s : State} {args : Array Value}
def zwq (p : Nat) (w : Cond) : Bool := decide ((zch (p / 1000))[p % 1000]? = some w)
theorem zwq_of {p : Nat} {w : Cond} (h : zwq p w = true) : w ∈ lw_tbl := by
  unfold zwq at h
  exact zch_in (List.mem_of_getElem? (of_decide_eq_true h))
def z2I : List Nat := [2106, 1036, 1030, 2022, 1156, 1175, 2052, 2127, 2071, 1102, 1231, 1022, 5132]
def z2ib (k : Nat) : Bool := match vwCl[k]? with
  | some q => zwq (z2I.getD k 0) (.instantiable q.1 q.2.2)
  | none => true
theorem z2ins : (List.range 13).all z2ib = true := by decide +kernel
theorem z2known (hts : ∀ w ∈ lw_tbl, w.before args s = true) : ∃ D : va_G, ∀ (c : Nat) (q : vw_C), vwCl[c]? = some q → u_Kn s q.1 q.2.1 q.2.2 (D.1 c) (D.2 c) := by
  have h : ∀ k : Nat, ∃ x : ClassId × (Nat → Nat), ∀ q : vw_C, vwCl[k]? = some q → u_Kn s q.1 q.2.1 q.2.2 x.1 x.2 := by
    intro k
    cases hk : vwCl[k]? with
    | none => exact ⟨(0, fun _ => 0), fun q h => by cases h⟩
    | some q =>
      have hlt : k < 13 := (List.getElem?_eq_some_iff.mp hk).1
      have hb := List.all_eq_true.mp z2ins k (List.mem_range.mpr hlt)
      unfold z2ib at hb
      rw [hk] at hb
      obtain ⟨-, ty, hty, -⟩ := z1def k q hk
      obtain ⟨cC, iS, hKn⟩ := u_known (n := q.2.2) hts (fun w hw => (List.mem_filter.mp (hty.1 w hw)).1) (hts _ (zwq_of hb))
      exact ⟨(cC, iS), fun q' h => by cases h; exact hKn⟩
  exact ⟨(fun c => (Classical.choose (h c)).1, fun c => (Classical.choose (h c)).2), fun c q hq => Classical.choose_spec (h c) q hq⟩
theorem z2ac {ty : FieldType} (h : (Cond.arrayClass ty).before args s = true) : ∃ c : ClassId, ArrOfT s c ty ∧ s.vm.findClass ("[" ++ ty.toString) = some c := by
  obtain ⟨c, k, comp, h1, h2, h3⟩ := Cond.arrayClass_spec h
  exact ⟨c, fun n z => ⟨fun k h => (by cases h), k, h2, comp, h3⟩, h1⟩
theorem z2ao {C : String} (h : (Cond.arrayOver (.object C)).before args s = true) : ∃ c : ClassId, ArrOfT s c (.object C) ∧ va_RA s c (.object C) := by
  obtain ⟨comp, c, k, h1, h2, h3, h4, h5⟩ := Cond.arrayOver_spec h
  exact ⟨c, fun n z => ⟨fun k h => (by cases h), k, h3, comp, h4⟩, k, comp, h3, h4, h1, h5⟩
theorem z2aa {t : FieldType} (h : (Cond.arrayOver (.array t)).before args s = true) : ∃ c : ClassId, ArrOfT s c (.array t) ∧ s.vm.findClass ("[" ++ (FieldType.array t).toString) = some c := by
  obtain ⟨comp, c, k, h1, h3, h4, h5⟩ := Cond.arrayOver_specA h
  exact ⟨c, fun n z => ⟨fun k h => (by cases h), k, h3, comp, h4⟩, h5⟩
/-- the string constants, and what is said of them -/
def z2tm (i : Nat) : Term := .string "OtherDoor$Tape" (zSi.getD i 0)
def z2va (i : Nat) : Term := .field (z2tm i) "java/lang/String" "value" "[B"
def z2hv : Term := .static "OtherDoor$Rounds" "HAVING" "[I"
def z2fl : List Cond := flatC (Jvm.Cond.and given_1 narrow_1)
theorem z2s1 : ∀ i, i < 8 → Cond.exactly (z2tm i) "java/lang/String" ∈ z2fl := by decide +kernel
theorem z2s2 : ∀ i, i < 8 → Cond.eq (.field (z2tm i) "java/lang/String" "coder" "B") (.int 0) ∈ z2fl := by decide +kernel
theorem z2s3 : ∀ i, i < 8 → Cond.arrayOf (z2va i) .byte ∈ z2fl := by decide +kernel
theorem z2s4 : ∀ i, i < 8 → Cond.eq (.length (z2va i)) (.int (Int32.ofNat (zSl.getD i 0))) ∈ z2fl := by decide +kernel
theorem z2s5 : ∀ i, i < 8 → ∀ j, j < zSl.getD i 0 → Cond.eq (.elem (z2va i) (.int (Int32.ofNat j))) (.int ((zSb.getD i []).getD j 0)) ∈ z2fl := by decide +kernel
theorem z2s6 : ∀ i, i < 8 → ∀ j, j < 8 → i ≠ j → Cond.not (Cond.eq (z2tm i) (z2tm j)) ∈ z2fl ∨ Cond.not (Cond.eq (z2tm j) (z2tm i)) ∈ z2fl := by decide +kernel
theorem z2s7 : ∀ j, j < 5 → Cond.eq (.elem z2hv (.int (Int32.ofNat j))) (.int (Int32.ofInt (zHV.getD j 0))) ∈ z2fl := by decide +kernel
theorem z2s8 : Cond.arrayOf z2hv .int ∈ z2fl := by decide +kernel
theorem z2s9 : Cond.eq (.length z2hv) (.int (Int32.ofNat 5)) ∈ z2fl := by decide +kernel
theorem z2s10 : Cond.eq (.static "java/lang/String" "COMPACT_STRINGS" "Z") (.int 1) ∈ z2fl := by decide +kernel
theorem z2s11 : Cond.isRef (.static "jdk/internal/util/Preconditions" "SIOOBE_FORMATTER" "Ljava/util/function/BiFunction;") ∈ z2fl := by decide +kernel
def z2R : List Nat := [3005, 3074, 3079, 3095, 3104, 3088, 3089, 3090]
theorem z2r : (List.range 8).all (fun i => zwq (z2R.getD i 0) (.stringRef "OtherDoor$Tape" (zSi.getD i 0) (zSt.getD i ""))) = true := by decide +kernel
def z2N : List Nat := [1031, 1037, 1103, 1157, 1176, 1181, 1229, 1232, 2023, 2053, 2072, 2107, 2128]
theorem z2n : (List.range 13).all (fun i => match z1nest[i]? with
  | some w => zwq (z2N.getD i 0) w
  | none => true) = true := by decide +kernel
theorem z2nest : ∀ w ∈ z1nest, w ∈ lw_tbl := by
  intro w hw
  obtain ⟨i, hi⟩ := List.getElem?_of_mem hw
  have hlt : i < 13 := (List.getElem?_eq_some_iff.mp hi).1
  have hb := List.all_eq_true.mp z2n i (List.mem_range.mpr hlt)
  rw [hi] at hb
  exact zwq_of hb
theorem z2on {b L : Nat} {xs : Nat → Int32} (hts : ∀ w ∈ lw_tbl, w.before #[Value.ref b] s = true) (hgv : (Jvm.Cond.and given_1 narrow_1).before #[Value.ref b] s = true) (hX : va_X b L xs s s.heap) (hbl : b < s.heap.size) (hL : L ≤ 3072) :
    ∃ E : zEnv, zEb E = s.heap.size ∧ zEs E = b ∧ zEl E = L ∧ zEx E = xs ∧ zOn E s ∧ z1On E s := by
  have hA : ∀ a : Nat, a < s.heap.size → ¬ (fun q : Nat => s.heap.size ≤ q ∧ q < s.heap.size + zNC) a := fun a h q => Nat.lt_irrefl _ (Nat.lt_of_lt_of_le h q.1)
  have hs : ∀ w ∈ z2fl, w.before #[Value.ref b] s = true := flat_of_before _ hgv
  obtain ⟨D, hD⟩ := z2known hts
  obtain ⟨c0, a0, r0⟩ := z2ac (hts (.arrayClass .int) (zwq_of (p := 1099) (by decide +kernel)))
  obtain ⟨c1, a1, r1⟩ := z2ac (hts (.arrayClass .byte) (zwq_of (p := 1227) (by decide +kernel)))
  obtain ⟨c2, a2, r2⟩ := z2ac (hts (.arrayClass .boolean) (zwq_of (p := 6031) (by decide +kernel)))
  obtain ⟨c3, a3, r3⟩ := z2ac (hts (.arrayClass .long) (zwq_of (p := 6030) (by decide +kernel)))
  have o4 := hts (.arrayOver (.object "OtherDoor$Walker")) (zwq_of (p := 1101) (by decide +kernel))
  have o5 := hts (.arrayOver (.object "OtherDoor$Palace")) (zwq_of (p := 1153) (by decide +kernel))
  have o6 := hts (.arrayOver (.object "OtherDoor$Sheet")) (zwq_of (p := 1155) (by decide +kernel))
  have o7 := hts (.arrayOver (.array .int)) (zwq_of (p := 2028) (by decide +kernel))
  obtain ⟨c4, a4, r4⟩ := z2ao o4
  obtain ⟨c5, a5, r5⟩ := z2ao o5
  obtain ⟨c6, a6, r6⟩ := z2ao o6
  obtain ⟨c7, a7, r7⟩ := z2aa o7
  obtain ⟨adK, adV, hS, hE⟩ := vk_Sof (N := 8) (tm := z2tm) (len := zSl) (byt := zSb) (A := fun q : Nat => s.heap.size ≤ q ∧ q < s.heap.size + zNC) (by decide +kernel) (fun i hi => hs _ (z2s1 i hi)) (fun i hi => hs _ (z2s2 i hi)) (fun i hi => hs _ (z2s3 i hi)) (fun i hi => hs _ (z2s4 i hi)) (fun i hi j hj => hs _ (z2s5 i hi j hj)) (fun i j hi hj hij => (z2s6 i hi j hj hij).imp (hs _) (hs _)) hA
  obtain ⟨t, ht, hT⟩ := va_Tof (tm := z2hv) (ty := .int) (N := 5) (f := fun j => .int (Int32.ofInt (zHV.getD j 0))) (A := fun q : Nat => s.heap.size ≤ q ∧ q < s.heap.size + zNC) (by decide) (hs _ z2s8) (va_eqt (hs _ z2s9)) (fun j hj => va_eqt (hs _ (z2s7 j hj))) hA
  have hK : ∀ (k : Nat) (q : ClassId × FieldType), ([(c0, .int), (c1, .byte), (c2, .boolean), (c3, .long), (c4, .object "OtherDoor$Walker"), (c5, .object "OtherDoor$Palace"), (c6, .object "OtherDoor$Sheet"), (c7, .array .int)] : List (ClassId × FieldType))[k]? = some q → ArrOfT s q.1 q.2 ∧ va_RA s q.1 q.2 := by
    intro k q hq
    have hm := List.mem_of_getElem? hq
    simp only [List.mem_cons, List.not_mem_nil, or_false] at hm
    rcases hm with rfl | rfl | rfl | rfl | rfl | rfl | rfl | rfl
    · exact ⟨a0, r0⟩
    · exact ⟨a1, r1⟩
    · exact ⟨a2, r2⟩
    · exact ⟨a3, r3⟩
    · exact ⟨a4, r4⟩
    · exact ⟨a5, r5⟩
    · exact ⟨a6, r6⟩
    · exact ⟨a7, r7⟩
  refine ⟨(s.heap.size, D, (fun n => match n with
    | 100 => c0
    | 101 => c1
    | 102 => c2
    | 103 => c3
    | 110 => c4
    | 111 => c5
    | 112 => c6
    | _ => c7), adK, adV, t, b, L, xs), rfl, rfl, rfl, rfl, ⟨⟨hD, hK⟩, hS, fun i hi => ?_, va_Zof (hts _ (zwq_of (p := 4127) (by decide +kernel))) (hts _ (zwq_of (p := 1008) (by decide +kernel))) ht hA, hT, ⟨hX, hL, hA b hbl⟩, va_Zof (hts _ (zwq_of (p := 3019) (by decide +kernel))) (hts _ (zwq_of (p := 1015) (by decide +kernel))) (va_eqi (hs _ z2s10)) hA, va_Zqof (hts _ (zwq_of (p := 3035) (by decide +kernel))) (hts _ (zwq_of (p := 1017) (by decide +kernel))) (hs _ z2s11) hA⟩, ⟨hD, hK⟩, fun w hw => ?_, va_AO.of o4, va_AO.of o5, va_AO.of o6, ?_⟩
  · have hb := List.all_eq_true.mp z2r i (List.mem_range.mpr hi)
    exact vk_R.of (hts _ (zwq_of hb)) (hE i hi)
  · obtain ⟨a, i, x, h, rfl⟩ := z1nest_ok w hw
    exact va_Nw.of rfl (hts _ (z2nest _ hw))
  · first
      | exact o7
      | exact va_tabs rfl rfl o7
end
