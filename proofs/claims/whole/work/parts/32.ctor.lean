section
def z1nest : List Cond := [.methodLinkNest "OtherDoor" 11 yX2_init "OtherDoor", .methodLinkNest "OtherDoor$Palace" 11 yX1_init "OtherDoor", .methodLinkNest "OtherDoor$Palace" 20 yX9_init "OtherDoor", .methodLinkNest "OtherDoor" 22 yX4_init "OtherDoor", .methodLinkNest "OtherDoor" 29 yX5_init "OtherDoor", .methodLinkNest "OtherDoor$Tape" 17 yX2_init "OtherDoor", .methodLinkNest "OtherDoor" 36 yX9_init "OtherDoor", .methodLinkNest "OtherDoor" 43 yX10_init "OtherDoor", .methodLinkNest "OtherDoor" 50 yX3_init "OtherDoor", .methodLinkNest "OtherDoor" 57 yX6_init "OtherDoor", .methodLinkNest "OtherDoor" 64 yX8_init "OtherDoor", .methodLinkNest "OtherDoor" 71 yX0_init "OtherDoor", .methodLinkNest "OtherDoor" 78 yX7_init "OtherDoor"]
theorem z1AO {u U : State} (hvm : u.vm.Alike U.vm) (h : (Cond.arrayOver (.array .int)).before #[] u = true) : (Cond.arrayOver (.array .int)).before #[] U = true := by
  unfold Cond.before Cond.holds at h ⊢
  simp only [Cond.value, beq_iff_eq, Option.bind_eq_some_iff, Option.map_eq_some_iff] at h ⊢
  obtain ⟨comp, hc, c, hi, k, hk, hb⟩ := h
  obtain ⟨k', hk', he⟩ := hvm.2.2 _ _ hk
  refine ⟨comp, by rw [hvm.findClass]; exact hc, c, ?_, k', hk', ?_⟩
  · rw [Array.findIdx?_eq_some_iff_getElem] at hi ⊢
    obtain ⟨h1, h2, h3⟩ := hi
    have hlt : c < U.vm.classes.size := (Array.getElem?_eq_some_iff.mp hk').1
    have kd : ∀ (j : Nat) (hj : j < u.vm.classes.size) (hj' : j < U.vm.classes.size), (U.vm.classes[j]).kind = (u.vm.classes[j]).kind := by
      intro j hj hj'
      obtain ⟨k2, hk2, he2⟩ := hvm.2.2 j _ (Array.getElem?_eq_getElem hj)
      have e2 : U.vm.classes[j] = k2 := (Array.getElem?_eq_some_iff.mp hk2).2
      rw [e2, he2]
    refine ⟨hlt, ?_, fun j hj => ?_⟩
    · rw [kd c h1 hlt]
      exact h2
    · rw [kd j (by omega) (by omega)]
      exact h3 j hj
  · have hkk : k'.kind = k.kind := by rw [he]
    rw [hkk, hvm.findClass]
    exact hb
def z1On (E : zEnv) (U : State) : Prop := va_K (zED E) vwCl (ztys E) U ∧ (∀ w ∈ z1nest, va_Nw w U) ∧ va_AO "OtherDoor$Walker" U ∧ va_AO "OtherDoor$Palace" U ∧ va_AO "OtherDoor$Sheet" U ∧ (Cond.arrayOver (.array .int)).before #[] U = true
theorem z1nest_ok : ∀ w ∈ z1nest, ∃ a i x h, w = .methodLinkNest a i x h := by
  intro w hw
  unfold z1nest at hw
  simp only [List.mem_cons, List.not_mem_nil, or_false] at hw
  rcases hw with rfl | rfl | rfl | rfl | rfl | rfl | rfl | rfl | rfl | rfl | rfl | rfl | rfl <;> exact ⟨_, _, _, _, rfl⟩
theorem z1On.warm {E : zEnv} {s U : State} (hW : s.WarmedH U.vm) (h : z1On E s) : z1On E U := by
  obtain ⟨h1, h2, h3, h4, h5, h6⟩ := h
  refine ⟨va_K.moved hW.alike h1, fun w hw => ?_, h3.moved hW.alike, h4.moved hW.alike, h5.moved hW.alike, z1AO hW.alike h6⟩
  obtain ⟨a, i, x, hh, rfl⟩ := z1nest_ok w hw
  exact (h2 _ hw).warmM hW
theorem z1On.same {E : zEnv} {s U : State} (hv : U.vm = s.vm) (h : z1On E s) : z1On E U := by
  obtain ⟨h1, h2, h3, h4, h5, h6⟩ := h
  have ha : s.vm.Alike U.vm := by rw [hv]; exact Vm.Alike.refl _
  refine ⟨va_K.moved ha h1, fun w hw => ?_, h3.moved ha, h4.moved ha, h5.moved ha, z1AO ha h6⟩
  obtain ⟨a, i, x, hh, rfl⟩ := z1nest_ok w hw
  exact va_Nw.same rfl hv.symm (h2 _ hw)
def z1Cx (dd : Nat) (M : z1m) (E : zEnv) (p : Program) (R : Room) (s : State) (m : MethodId) (args : Array Value) (meth : Method) (c : Code) : Prop :=
  p.tables.exec = Jvm.exec ∧ c.code = zKb (z1Mk M) ∧ c.maxLocals = zKl (z1Mk M) ∧ s.vm.findClass (z1Mo M) = some m.cls ∧ (∀ w ∈ zgood, w.before args s = true) ∧ dd ≤ R.frames ∧ 100 * dd ≤ R.locals ∧ meth.name = "<init>" ∧ z1On E s ∧ zEb E ≤ s.heap.size
def z1G (dd : Nat) (M : z1m) (lim : Nat × Nat) (S0 S' : List z1c) (pc th : Nat) (st : List zV) (S : List z1c) : Prop :=
  ∀ (p : Program) (l : Launch) (e : Env) (R : Room) (s : State) (m : MethodId) (args : Array Value) (below : List Frame) (meth : Method) (c : Code) (H : Heap) (locs : List Loc) (cells slots : Nat) (Qf : State → Prop) (E : zEnv) (lj : Array Slot),
    z1Cx dd M E p R s m args meth c → lim.1 ≤ S0.length + R.cells → lim.2 ≤ z1s S0 + R.slots → cells + S0.length = S.length → slots + z1s S0 = z1s S → z1H E S H → va_S (z1A E) s.heap H locs → lj.size = zKl (z1Mk M) → lj[0]? = some (.val (.ref (zEb E + th))) →
    (∀ (H' : Heap) (locs' : List Loc) (cells' slots' pc' : Nat), cells' + S0.length = S'.length → slots' + z1s S0 = z1s S' → z1H E S' H' → va_S (z1A E) s.heap H' locs' → decode (zKb (z1Mk M)) pc' = .ok (.return_, 1) → W p l e R s m args below meth c H' locs' cells' slots' Qf (F0 m pc' lj [])) →
    W p l e R s m args below meth c H locs cells slots Qf (F0 m pc lj (st.map (zv E)))
/-- a class's default values -/
theorem z1def : ∀ (ci : Nat) (q : vw_C), vwCl[ci]? = some q → z1nf ci = q.2.2 ∧ ∃ ty, zCF ci q ty ∧ ∀ k, k < q.2.2 → defaultValue (ty k) = (if zfk ci k = 2 then .null else .int 0) ∧ (zfk ci k = 2 → (q.2.1 k).2.2.2 = true ∧ (q.2.1 k).1 = q.1 ∧ (∀ a, narrow (ty k) (.ref a) = .ref a ∧ fits (ty k) (.ref a) = true))
  | 0, q, h => by
    cases h
    refine ⟨by decide +kernel, tyX0, zCF_0, fun k hk => ⟨(show ∀ k, k < 4 → defaultValue (tyX0 k) = (if zfk 0 k = 2 then .null else .int 0) by decide +kernel) k hk, fun h2 => ?_⟩⟩
    have h3 := (show ∀ k, k < 4 → zfk 0 k = 2 → (TX0 k).2.2.2 = true ∧ (TX0 k).1 = RX0 ∧ (tyX0 k).isReference = true by decide +kernel) k hk h2
    refine ⟨h3.1, h3.2.1, fun a => ?_⟩
    have h4 := h3.2.2
    revert h4
    show (tyX0 k).isReference = true → narrow (tyX0 k) (.ref a) = .ref a ∧ fits (tyX0 k) (.ref a) = true
    cases tyX0 k <;> intro h4 <;> first | exact ⟨rfl, rfl⟩ | (cases h4; done)
  | 1, q, h => by
    cases h
    refine ⟨by decide +kernel, tyX1, zCF_1, fun k hk => ⟨(show ∀ k, k < 9 → defaultValue (tyX1 k) = (if zfk 1 k = 2 then .null else .int 0) by decide +kernel) k hk, fun h2 => ?_⟩⟩
    have h3 := (show ∀ k, k < 9 → zfk 1 k = 2 → (TX1 k).2.2.2 = true ∧ (TX1 k).1 = RX1 ∧ (tyX1 k).isReference = true by decide +kernel) k hk h2
    refine ⟨h3.1, h3.2.1, fun a => ?_⟩
    have h4 := h3.2.2
    revert h4
    show (tyX1 k).isReference = true → narrow (tyX1 k) (.ref a) = .ref a ∧ fits (tyX1 k) (.ref a) = true
    cases tyX1 k <;> intro h4 <;> first | exact ⟨rfl, rfl⟩ | (cases h4; done)
  | 2, q, h => by
    cases h
    refine ⟨by decide +kernel, tyX2, zCF_2, fun k hk => ⟨(show ∀ k, k < 5 → defaultValue (tyX2 k) = (if zfk 2 k = 2 then .null else .int 0) by decide +kernel) k hk, fun h2 => ?_⟩⟩
    have h3 := (show ∀ k, k < 5 → zfk 2 k = 2 → (TX2 k).2.2.2 = true ∧ (TX2 k).1 = RX2 ∧ (tyX2 k).isReference = true by decide +kernel) k hk h2
    refine ⟨h3.1, h3.2.1, fun a => ?_⟩
    have h4 := h3.2.2
    revert h4
    show (tyX2 k).isReference = true → narrow (tyX2 k) (.ref a) = .ref a ∧ fits (tyX2 k) (.ref a) = true
    cases tyX2 k <;> intro h4 <;> first | exact ⟨rfl, rfl⟩ | (cases h4; done)
  | 3, q, h => by
    cases h
    refine ⟨by decide +kernel, tyX3, zCF_3, fun k hk => ⟨(show ∀ k, k < 7 → defaultValue (tyX3 k) = (if zfk 3 k = 2 then .null else .int 0) by decide +kernel) k hk, fun h2 => ?_⟩⟩
    have h3 := (show ∀ k, k < 7 → zfk 3 k = 2 → (TX3 k).2.2.2 = true ∧ (TX3 k).1 = RX3 ∧ (tyX3 k).isReference = true by decide +kernel) k hk h2
    refine ⟨h3.1, h3.2.1, fun a => ?_⟩
    have h4 := h3.2.2
    revert h4
    show (tyX3 k).isReference = true → narrow (tyX3 k) (.ref a) = .ref a ∧ fits (tyX3 k) (.ref a) = true
    cases tyX3 k <;> intro h4 <;> first | exact ⟨rfl, rfl⟩ | (cases h4; done)
  | 4, q, h => by
    cases h
    refine ⟨by decide +kernel, tyX4, zCF_4, fun k hk => ⟨(show ∀ k, k < 3 → defaultValue (tyX4 k) = (if zfk 4 k = 2 then .null else .int 0) by decide +kernel) k hk, fun h2 => ?_⟩⟩
    have h3 := (show ∀ k, k < 3 → zfk 4 k = 2 → (TX4 k).2.2.2 = true ∧ (TX4 k).1 = RX4 ∧ (tyX4 k).isReference = true by decide +kernel) k hk h2
    refine ⟨h3.1, h3.2.1, fun a => ?_⟩
    have h4 := h3.2.2
    revert h4
    show (tyX4 k).isReference = true → narrow (tyX4 k) (.ref a) = .ref a ∧ fits (tyX4 k) (.ref a) = true
    cases tyX4 k <;> intro h4 <;> first | exact ⟨rfl, rfl⟩ | (cases h4; done)
  | 5, q, h => by
    cases h
    refine ⟨by decide +kernel, tyX5, zCF_5, fun k hk => ⟨(show ∀ k, k < 13 → defaultValue (tyX5 k) = (if zfk 5 k = 2 then .null else .int 0) by decide +kernel) k hk, fun h2 => ?_⟩⟩
    have h3 := (show ∀ k, k < 13 → zfk 5 k = 2 → (TX5 k).2.2.2 = true ∧ (TX5 k).1 = RX5 ∧ (tyX5 k).isReference = true by decide +kernel) k hk h2
    refine ⟨h3.1, h3.2.1, fun a => ?_⟩
    have h4 := h3.2.2
    revert h4
    show (tyX5 k).isReference = true → narrow (tyX5 k) (.ref a) = .ref a ∧ fits (tyX5 k) (.ref a) = true
    cases tyX5 k <;> intro h4 <;> first | exact ⟨rfl, rfl⟩ | (cases h4; done)
  | 6, q, h => by
    cases h
    refine ⟨by decide +kernel, tyX6, zCF_6, fun k hk => ⟨(show ∀ k, k < 4 → defaultValue (tyX6 k) = (if zfk 6 k = 2 then .null else .int 0) by decide +kernel) k hk, fun h2 => ?_⟩⟩
    have h3 := (show ∀ k, k < 4 → zfk 6 k = 2 → (TX6 k).2.2.2 = true ∧ (TX6 k).1 = RX6 ∧ (tyX6 k).isReference = true by decide +kernel) k hk h2
    refine ⟨h3.1, h3.2.1, fun a => ?_⟩
    have h4 := h3.2.2
    revert h4
    show (tyX6 k).isReference = true → narrow (tyX6 k) (.ref a) = .ref a ∧ fits (tyX6 k) (.ref a) = true
    cases tyX6 k <;> intro h4 <;> first | exact ⟨rfl, rfl⟩ | (cases h4; done)
  | 7, q, h => by
    cases h
    refine ⟨by decide +kernel, tyX7, zCF_7, fun k hk => ⟨(show ∀ k, k < 6 → defaultValue (tyX7 k) = (if zfk 7 k = 2 then .null else .int 0) by decide +kernel) k hk, fun h2 => ?_⟩⟩
    have h3 := (show ∀ k, k < 6 → zfk 7 k = 2 → (TX7 k).2.2.2 = true ∧ (TX7 k).1 = RX7 ∧ (tyX7 k).isReference = true by decide +kernel) k hk h2
    refine ⟨h3.1, h3.2.1, fun a => ?_⟩
    have h4 := h3.2.2
    revert h4
    show (tyX7 k).isReference = true → narrow (tyX7 k) (.ref a) = .ref a ∧ fits (tyX7 k) (.ref a) = true
    cases tyX7 k <;> intro h4 <;> first | exact ⟨rfl, rfl⟩ | (cases h4; done)
  | 8, q, h => by
    cases h
    refine ⟨by decide +kernel, tyX8, zCF_8, fun k hk => ⟨(show ∀ k, k < 9 → defaultValue (tyX8 k) = (if zfk 8 k = 2 then .null else .int 0) by decide +kernel) k hk, fun h2 => ?_⟩⟩
    have h3 := (show ∀ k, k < 9 → zfk 8 k = 2 → (TX8 k).2.2.2 = true ∧ (TX8 k).1 = RX8 ∧ (tyX8 k).isReference = true by decide +kernel) k hk h2
    refine ⟨h3.1, h3.2.1, fun a => ?_⟩
    have h4 := h3.2.2
    revert h4
    show (tyX8 k).isReference = true → narrow (tyX8 k) (.ref a) = .ref a ∧ fits (tyX8 k) (.ref a) = true
    cases tyX8 k <;> intro h4 <;> first | exact ⟨rfl, rfl⟩ | (cases h4; done)
  | 9, q, h => by
    cases h
    refine ⟨by decide +kernel, tyX9, zCF_9, fun k hk => ⟨(show ∀ k, k < 3 → defaultValue (tyX9 k) = (if zfk 9 k = 2 then .null else .int 0) by decide +kernel) k hk, fun h2 => ?_⟩⟩
    have h3 := (show ∀ k, k < 3 → zfk 9 k = 2 → (TX9 k).2.2.2 = true ∧ (TX9 k).1 = RX9 ∧ (tyX9 k).isReference = true by decide +kernel) k hk h2
    refine ⟨h3.1, h3.2.1, fun a => ?_⟩
    have h4 := h3.2.2
    revert h4
    show (tyX9 k).isReference = true → narrow (tyX9 k) (.ref a) = .ref a ∧ fits (tyX9 k) (.ref a) = true
    cases tyX9 k <;> intro h4 <;> first | exact ⟨rfl, rfl⟩ | (cases h4; done)
  | 10, q, h => by
    cases h
    refine ⟨by decide +kernel, tyX10, zCF_10, fun k hk => ⟨(show ∀ k, k < 8 → defaultValue (tyX10 k) = (if zfk 10 k = 2 then .null else .int 0) by decide +kernel) k hk, fun h2 => ?_⟩⟩
    have h3 := (show ∀ k, k < 8 → zfk 10 k = 2 → (TX10 k).2.2.2 = true ∧ (TX10 k).1 = RX10 ∧ (tyX10 k).isReference = true by decide +kernel) k hk h2
    refine ⟨h3.1, h3.2.1, fun a => ?_⟩
    have h4 := h3.2.2
    revert h4
    show (tyX10 k).isReference = true → narrow (tyX10 k) (.ref a) = .ref a ∧ fits (tyX10 k) (.ref a) = true
    cases tyX10 k <;> intro h4 <;> first | exact ⟨rfl, rfl⟩ | (cases h4; done)
  | 11, q, h => by
    cases h
    refine ⟨by decide +kernel, tyX11, zCF_11, fun k hk => ⟨(show ∀ k, k < 13 → defaultValue (tyX11 k) = (if zfk 11 k = 2 then .null else .int 0) by decide +kernel) k hk, fun h2 => ?_⟩⟩
    have h3 := (show ∀ k, k < 13 → zfk 11 k = 2 → (TX11 k).2.2.2 = true ∧ (TX11 k).1 = RX11 ∧ (tyX11 k).isReference = true by decide +kernel) k hk h2
    refine ⟨h3.1, h3.2.1, fun a => ?_⟩
    have h4 := h3.2.2
    revert h4
    show (tyX11 k).isReference = true → narrow (tyX11 k) (.ref a) = .ref a ∧ fits (tyX11 k) (.ref a) = true
    cases tyX11 k <;> intro h4 <;> first | exact ⟨rfl, rfl⟩ | (cases h4; done)
  | 12, q, h => by
    cases h
    refine ⟨by decide +kernel, tyX12, zCF_12, fun k hk => ⟨(show ∀ k, k < 44 → defaultValue (tyX12 k) = (if zfk 12 k = 2 then .null else .int 0) by decide +kernel) k hk, fun h2 => ?_⟩⟩
    have h3 := (show ∀ k, k < 44 → zfk 12 k = 2 → (TX12 k).2.2.2 = true ∧ (TX12 k).1 = RX12 ∧ (tyX12 k).isReference = true by decide +kernel) k hk h2
    refine ⟨h3.1, h3.2.1, fun a => ?_⟩
    have h4 := h3.2.2
    revert h4
    show (tyX12 k).isReference = true → narrow (tyX12 k) (.ref a) = .ref a ∧ fits (tyX12 k) (.ref a) = true
    cases tyX12 k <;> intro h4 <;> first | exact ⟨rfl, rfl⟩ | (cases h4; done)
  | n + 13, q, h => by simp [vwCl] at h
/-- the rows of a constructor's tables -/
def z1Nf (own : String) (e : Nat × Nat × List Nat) : Prop :=
  (e.2.1 < 13 → ∃ q, vwCl[e.2.1]? = some q ∧ Cond.classLink own e.1 q.1 ∈ zgood ∧ Cond.instantiable q.1 q.2.2 ∈ zgood ∧ Cond.initialized q.1 ∈ zgood) ∧
  (e.2.1 = 110 → Cond.classLink own (e.1 - 1000) "OtherDoor$Walker" ∈ zgood) ∧ (e.2.1 = 111 → Cond.classLink own (e.1 - 1000) "OtherDoor$Palace" ∈ zgood) ∧ (e.2.1 = 112 → Cond.classLink own (e.1 - 1000) "OtherDoor$Sheet" ∈ zgood) ∧ (e.2.1 = 113 → Cond.classLink own e.1 "[[I" ∈ zgood)
def z1Cf (T : List z1m) (own : String) (e : Nat × Nat × List Nat) : Prop :=
  (e.2.1 = 99 → Cond.methodLink own e.1 objectInit ∈ zgood ∧ Cond.instanceMethod objectInit ∈ zgood ∧ Cond.code objectInit ⟨#[0xb1]⟩ 1 none ∈ zgood) ∧
  (e.2.1 ≠ 99 → ∀ M', T[e.2.1]? = some M' → Cond.methodLinkNest own e.1 (zKy (z1Mk M')) "OtherDoor" ∈ z1nest)
/-- a constructor's own words -/
def z1Kf (M : z1m) : Prop := Cond.code (zKy (z1Mk M)) (zKb (z1Mk M)) 1 none ∈ zgood ∧ Cond.instanceMethod (zKy (z1Mk M)) ∈ zgood ∧ Cond.initialized (zKy (z1Mk M)).cls ∈ zgood ∧ (zKy (z1Mk M)).cls ≠ "java/lang/invoke/MethodHandle" ∧ (zKy (z1Mk M)).cls ≠ "java/lang/invoke/VarHandle" ∧ (parseMethodDescriptor (zKy (z1Mk M)).desc).map (fun d => d.parameters.length) = some 0 ∧ (zKy (z1Mk M)).name = "<init>" ∧ zKl (z1Mk M) = 1 ∧ zKr (z1Mk M) = none ∧ plainName (zKy (z1Mk M)).cls = true ∧ (zKy (z1Mk M)).cls = z1Mo M
def z1lq (i : Instr) (len : Nat) : Bool := match i with
  | .multianewarray _ d => Nat.beq len 4 && Nat.beq d 2
  | .bipush n => Nat.beq len 2 && decide (-128 ≤ n) && decide (n < 128)
  | .sipush n => Nat.beq len 3 && decide (-32768 ≤ n) && decide (n < 32768)
  | .newarray _ => Nat.beq len 2
  | .new _ | .anewarray _ | .putfield _ | .invokespecial _ => Nat.beq len 3
  | _ => Nat.beq len 1
def z1OK (T : List z1m) (M : z1m) : Prop := (∀ c ∈ z1Mc M, decode (zKb (z1Mk M)) c.1 = .ok (c.2.1, c.2.2) ∧ z1lq c.2.1 c.2.2 = true) ∧ (∀ f ∈ z1Mf M, zFf (z1Mo M) f) ∧ (∀ e ∈ z1Mn M, z1Nf (z1Mo M) e) ∧ (∀ e ∈ z1Mm M, z1Cf T (z1Mo M) e) ∧ z1Kf M ∧ ∀ f ∈ z1Mf M, ∀ q, vwCl[f.2.1]? = some q → q.1 = z1Mo M
end
