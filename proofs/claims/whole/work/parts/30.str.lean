section
/-! String.length, String.charAt of the string constants, by the kit's own rows. -/
def zCr (d : Nat) (K : zKey) (vs : zEnv → List Value) (mem : zMem) (Q : Int → zMem → Prop) : Prop :=
  ∀ (l : Launch) (E : zEnv) (d' : Nat), d ≤ d' → Met l (zKy K) (zW K) (zRm d') (fun v U => v = (vs E).toArray ∧ zOn E U ∧ zHp E mem U.heap) (zQc E (zKr K) Q) 0 0 (zA E)
/-- what a body knows -/
def zBd (d : Nat) (K : zKey) (vs : zEnv → List Value) (mem : zMem) (E : zEnv) (p : Program) (R : Room) (s : State) (m : MethodId) (meth : Method) (c : Code) : Prop :=
  p.tables.exec = Jvm.exec ∧ c.code = zKb K ∧ c.maxLocals = zKl K ∧ meth.sig.returnType = zKr K ∧ meth.locks = false ∧ s.vm.findClass (zKy K).cls = some m.cls ∧ (∀ w ∈ zgood, w.before (vs E).toArray s = true) ∧ d ≤ R.frames ∧ 100 * d ≤ R.locals ∧ zOn E s ∧ zHp E mem s.heap
theorem zRaw {d : Nat} {K : zKey} {vs : zEnv → List Value} {mem : zMem} {Q : Int → zMem → Prop} (hpl : plainName (zKy K).cls = true)
    (body : ∀ (p : Program) (l : Launch) (e : Env) (s : State) (m : MethodId) (below : List Frame) (meth : Method) (c : Code) (E : zEnv) (R : Room), zBd d K vs mem E p R s m meth c → W p l e R s m (vs E).toArray below meth c s.heap [] 0 0 (MQ below (zQc E (zKr K) Q) (vs E).toArray s 0 0 (zA E)) (entryFrame m (vs E).toArray (zKl K))) : zCr d K vs mem Q := by
  intro l E d' hd'
  refine Met.ofW (cc := zKb K) (maxL := zKl K) (ret := zKr K) hpl rfl ?_
  intro p e s m args below meth c s₁ B hml hv
  obtain ⟨rfl, hOn, hH⟩ := hv
  have hts := atoms_spec (ws := zW K) B.pre
  exact body p l e s m below meth c E _ ⟨B.exec, B.bytes, hml, B.returns, B.notSynchronized, findClass_of_methodNamed B.named, fun w hw => hts w (List.mem_cons_of_mem _ hw), hd', by show 100 * d ≤ 100 * d'; omega, hOn, hH⟩
theorem zCr_blind (E : zEnv) (vs : zEnv → List Value) (mem : zMem) : FrameBlind (fun v U => v = (vs E).toArray ∧ zOn E U ∧ zHp E mem U.heap) := by
  intro a U g mk h
  obtain ⟨h1, ⟨h3, h4⟩, h5⟩ := h
  exact ⟨h1, ⟨va_K.moved (u := U) (U := U.calling g mk a) (Vm.Alike.refl U.vm) h3, zXt.same (s := U) (U := U.calling g mk a) rfl h4⟩, h5⟩
theorem zCr_at {E : zEnv} {vs : zEnv → List Value} {mem : zMem} {s U : State} {H : Heap} {locs : List Loc} (hOn : zOn E s) (hH : zHp E mem H) (hS : va_S (zA E) s.heap H locs) (hU : U.heap = H) (hW : s.WarmedH U.vm) {av : List Value} (hvs : vs E = av) : av.toArray = (vs E).toArray ∧ zOn E U ∧ zHp E mem U.heap :=
  ⟨by rw [hvs], ⟨va_K.moved hW.alike hOn.1, by rw [hU]; exact (hOn.2.kept hS.2.1).warm hW⟩, by rw [hU]; exact hH⟩
theorem zC_of_r {d : Nat} {K : zKey} {av : List zV} {mem : zMem} {Q : Int → zMem → Prop} (h : zCr d K (fun E => av.map (zv E)) mem Q) : zC d K av mem Q := by
  intro l E d' hd p e ha hc hk s m args below hf hs hp hK
  exact h l E d' hd p e ha hc hk s m args below hf hs ⟨hp.1, hp.2.2.1, hp.2.2.2⟩ hK
variable {p : Program} {l : Launch} {e : Env} {R : Room} {s : State} {m : MethodId} {args : Array Value} {below : List Frame} {meth : Method} {c : Code} {H : Heap} {locs : List Loc} {Qf : State → Prop} {E : zEnv} {lj : Array Slot} {mem : zMem} {Q' : Int → zMem → Prop} {K : zKey} {own : String} {idx pc nL d : Nat} {cc : ByteArray}
theorem zcV (S : CallFix p m c cc nL s args zgood own) {b : Addr} {As : List Value} {rest : List Value} {C : String} {vs : zEnv → List Value} (hM : zCr d K vs mem Q') (hvs : vs E = .ref b :: As) (hC : (zKy K).cls = C) (w : zMf1 own (idx, K, 102, As.length, [])) (hC2 : C = "java/lang/String") (hfr : d + 1 ≤ R.frames) (hlo : 100 * (d + 1) ≤ R.locals) (hOn : zOn E s) (hH : zHp E mem H) (hS : va_S (zA E) s.heap H locs)
    (hrecv : ∃ cellB : Cell, H[b]? = some cellB ∧ cellB.vm.isStatics = false ∧ s.vm.findClass C = some cellB.cls) (hL : lj.size = nL) (hsm : (rest.map fun v => v.category).sum ≤ 8) (hd : decode cc pc = .ok (.invokevirtual idx, 3))
    (kk : ∀ (x : Int) (mem' : zMem) (H1 : Heap) (locs1 : List Loc), zok (zrtag (zKr K), x) → Q' x mem' → zHp E mem' H1 → va_S (zA E) s.heap H1 locs1 → W p l e R s m args below meth c H1 locs1 0 0 Qf (F0 m (pc + 3) lj ((zret E (zKr K) x).toList ++ rest))) : W p l e R s m args below meth c H locs 0 0 Qf (F0 m pc lj (As.reverse ++ .ref b :: rest)) := by
  subst hC
  obtain ⟨hA, -, hT, -, -⟩ := w
  replace hA := hA (show (102 : Nat) ≠ 101 by decide)
  obtain ⟨-, hV2, hV3⟩ := hT rfl
  exact zcall (va_runV (C := (zKy K).cls) (As := As) (rest := rest) S (hM l E d (Nat.le_refl _)) (cwV As.length S.2.2.2.2 (zgoodW hA.1 hA.2.1 hV2 hV3 hA.2.2.1) rfl rfl rfl ⟨rfl, hA.2.2.2.1, hA.2.2.2.2.1, hA.2.2.2.2.2.1⟩ (zroom hfr hlo hA.2.2.2.2.2.2)) ⟨zCr_blind E vs mem, hrecv, fun U hU hW => zCr_at (vs := vs) hOn hH hS hU hW hvs⟩ rfl rfl hL rfl (lv_room hsm) hd ⟨Nat.zero_le _, Nat.zero_le _⟩) hS kk
theorem zcS (S : CallFix p m c cc nL s args zgood own) {As : List Value} {rest : List Value} {vs : zEnv → List Value} (hM : zCr d K vs mem Q') (hvs : vs E = As) (w : zMf1 own (idx, K, 100, As.length, [])) (hfr : d + 1 ≤ R.frames) (hlo : 100 * (d + 1) ≤ R.locals) (hOn : zOn E s) (hH : zHp E mem H) (hS : va_S (zA E) s.heap H locs)
    (hL : lj.size = nL) (hsm : (rest.map fun v => v.category).sum ≤ 8) (hd : decode cc pc = .ok (.invokestatic idx, 3))
    (kk : ∀ (x : Int) (mem' : zMem) (H1 : Heap) (locs1 : List Loc), zok (zrtag (zKr K), x) → Q' x mem' → zHp E mem' H1 → va_S (zA E) s.heap H1 locs1 → W p l e R s m args below meth c H1 locs1 0 0 Qf (F0 m (pc + 3) lj ((zret E (zKr K) x).toList ++ rest))) : W p l e R s m args below meth c H locs 0 0 Qf (F0 m pc lj (As.reverse ++ rest)) := by
  obtain ⟨hA, -, -, hT, -⟩ := w
  replace hA := hA (show (100 : Nat) ≠ 101 by decide)
  exact zcall (va_runS (As := As) (rest := rest) S (hM l E d (Nat.le_refl _)) (va_cwS As.length S.2.2.2.2 (zgoodS hA.1 hA.2.1 (hT rfl) hA.2.2.1) rfl rfl rfl ⟨hA.2.2.2.1, hA.2.2.2.2.1, hA.2.2.2.2.2.1⟩ (zroom hfr hlo hA.2.2.2.2.2.2)) ⟨zCr_blind E vs mem, fun U hU hW => zCr_at (vs := vs) hOn hH hS hU hW hvs⟩ rfl rfl hL rfl (lv_room hsm) hd ⟨Nat.zero_le _, Nat.zero_le _⟩) hS kk
theorem zw_Js_335 : zMf1 "java/lang/String" (335, K_Js_coder, 102, 0, []) := zmb_of (c := (335, K_Js_coder, 102, 0, [3014, 3017, 1015, 3015, 3016])) (by decide +kernel)
theorem zw_Js_492 : zMf1 "java/lang/String" (492, K_Js_isLatin1, 102, 0, []) := zmb_of (c := (492, K_Js_isLatin1, 102, 0, [3024, 3027, 1015, 3025, 3026])) (by decide +kernel)
theorem zw_Js_495 : zMf1 "java/lang/String" (495, K_Jl_charAt, 100, 2, []) := zmb_of (c := (495, K_Jl_charAt, 100, 2, [3028, 3030, 1016, 3029])) (by decide +kernel)
theorem zw_Jl_9 : zMf1 "java/lang/StringLatin1" (9, K_Js_checkIndex, 100, 2, []) := zmb_of (c := (9, K_Js_checkIndex, 100, 2, [3031, 3033, 1015, 3032])) (by decide +kernel)
theorem zw_Js_1059 : zMf1 "java/lang/String" (1059, K_Jp_checkIndex, 100, 3, []) := zmb_of (c := (1059, K_Jp_checkIndex, 100, 3, [3036, 3038, 1017, 3037])) (by decide +kernel)
theorem zf_value : Cond.fieldLink "java/lang/String" 9 "java/lang/String" "value" "[B" ∈ zgood := zwb_of (p := 7187) (by decide +kernel)
theorem zf_coder : Cond.fieldLink "java/lang/String" 15 "java/lang/String" "coder" "B" ∈ zgood := zwb_of (p := 7188) (by decide +kernel)
theorem zf_comp : Cond.fieldLink "java/lang/String" 38 "java/lang/String" "COMPACT_STRINGS" "Z" ∈ zgood := zwb_of (p := 3018) (by decide +kernel)
theorem zf_sio : Cond.fieldLink "java/lang/String" 1053 "jdk/internal/util/Preconditions" "SIOOBE_FORMATTER" "Ljava/util/function/BiFunction;" ∈ zgood := zwb_of (p := 3034) (by decide +kernel)
theorem zd_Js_length_0 : decode (zKb K_Js_length) 0 = .ok (.aload_n 0, 1) := by decide +kernel
theorem zd_Js_length_1 : decode (zKb K_Js_length) 1 = .ok (.getfield 9, 3) := by decide +kernel
theorem zd_Js_length_4 : decode (zKb K_Js_length) 4 = .ok (.arraylength, 1) := by decide +kernel
theorem zd_Js_length_5 : decode (zKb K_Js_length) 5 = .ok (.aload_n 0, 1) := by decide +kernel
theorem zd_Js_length_6 : decode (zKb K_Js_length) 6 = .ok (.invokevirtual 335, 3) := by decide +kernel
theorem zd_Js_length_9 : decode (zKb K_Js_length) 9 = .ok (.ishr, 1) := by decide +kernel
theorem zd_Js_length_10 : decode (zKb K_Js_length) 10 = .ok (.ireturn, 1) := by decide +kernel
theorem zd_Js_coder_0 : decode (zKb K_Js_coder) 0 = .ok (.getstatic 38, 3) := by decide +kernel
theorem zd_Js_coder_3 : decode (zKb K_Js_coder) 3 = .ok (.ifCond .eq 10, 3) := by decide +kernel
theorem zd_Js_coder_6 : decode (zKb K_Js_coder) 6 = .ok (.aload_n 0, 1) := by decide +kernel
theorem zd_Js_coder_7 : decode (zKb K_Js_coder) 7 = .ok (.getfield 15, 3) := by decide +kernel
theorem zd_Js_coder_10 : decode (zKb K_Js_coder) 10 = .ok (.goto 4, 3) := by decide +kernel
theorem zd_Js_coder_13 : decode (zKb K_Js_coder) 13 = .ok (.iconst 1, 1) := by decide +kernel
theorem zd_Js_coder_14 : decode (zKb K_Js_coder) 14 = .ok (.ireturn, 1) := by decide +kernel
theorem zd_Js_charAt_0 : decode (zKb K_Js_charAt) 0 = .ok (.aload_n 0, 1) := by decide +kernel
theorem zd_Js_charAt_1 : decode (zKb K_Js_charAt) 1 = .ok (.invokevirtual 492, 3) := by decide +kernel
theorem zd_Js_charAt_4 : decode (zKb K_Js_charAt) 4 = .ok (.ifCond .eq 12, 3) := by decide +kernel
theorem zd_Js_charAt_7 : decode (zKb K_Js_charAt) 7 = .ok (.aload_n 0, 1) := by decide +kernel
theorem zd_Js_charAt_8 : decode (zKb K_Js_charAt) 8 = .ok (.getfield 9, 3) := by decide +kernel
theorem zd_Js_charAt_11 : decode (zKb K_Js_charAt) 11 = .ok (.iload_n 1, 1) := by decide +kernel
theorem zd_Js_charAt_12 : decode (zKb K_Js_charAt) 12 = .ok (.invokestatic 495, 3) := by decide +kernel
theorem zd_Js_charAt_15 : decode (zKb K_Js_charAt) 15 = .ok (.ireturn, 1) := by decide +kernel
theorem zd_Js_charAt_16 : decode (zKb K_Js_charAt) 16 = .ok (.aload_n 0, 1) := by decide +kernel
theorem zd_Js_charAt_17 : decode (zKb K_Js_charAt) 17 = .ok (.getfield 9, 3) := by decide +kernel
theorem zd_Js_charAt_20 : decode (zKb K_Js_charAt) 20 = .ok (.iload_n 1, 1) := by decide +kernel
theorem zd_Js_charAt_21 : decode (zKb K_Js_charAt) 21 = .ok (.invokestatic 498, 3) := by decide +kernel
theorem zd_Js_charAt_24 : decode (zKb K_Js_charAt) 24 = .ok (.ireturn, 1) := by decide +kernel
theorem zd_Js_isLatin1_0 : decode (zKb K_Js_isLatin1) 0 = .ok (.getstatic 38, 3) := by decide +kernel
theorem zd_Js_isLatin1_3 : decode (zKb K_Js_isLatin1) 3 = .ok (.ifCond .eq 14, 3) := by decide +kernel
theorem zd_Js_isLatin1_6 : decode (zKb K_Js_isLatin1) 6 = .ok (.aload_n 0, 1) := by decide +kernel
theorem zd_Js_isLatin1_7 : decode (zKb K_Js_isLatin1) 7 = .ok (.getfield 15, 3) := by decide +kernel
theorem zd_Js_isLatin1_10 : decode (zKb K_Js_isLatin1) 10 = .ok (.ifCond .ne 7, 3) := by decide +kernel
theorem zd_Js_isLatin1_13 : decode (zKb K_Js_isLatin1) 13 = .ok (.iconst 1, 1) := by decide +kernel
theorem zd_Js_isLatin1_14 : decode (zKb K_Js_isLatin1) 14 = .ok (.goto 4, 3) := by decide +kernel
theorem zd_Js_isLatin1_17 : decode (zKb K_Js_isLatin1) 17 = .ok (.iconst 0, 1) := by decide +kernel
theorem zd_Js_isLatin1_18 : decode (zKb K_Js_isLatin1) 18 = .ok (.ireturn, 1) := by decide +kernel
theorem zd_Jl_charAt_0 : decode (zKb K_Jl_charAt) 0 = .ok (.iload_n 1, 1) := by decide +kernel
theorem zd_Jl_charAt_1 : decode (zKb K_Jl_charAt) 1 = .ok (.aload_n 0, 1) := by decide +kernel
theorem zd_Jl_charAt_2 : decode (zKb K_Jl_charAt) 2 = .ok (.arraylength, 1) := by decide +kernel
theorem zd_Jl_charAt_3 : decode (zKb K_Jl_charAt) 3 = .ok (.invokestatic 9, 3) := by decide +kernel
theorem zd_Jl_charAt_6 : decode (zKb K_Jl_charAt) 6 = .ok (.aload_n 0, 1) := by decide +kernel
theorem zd_Jl_charAt_7 : decode (zKb K_Jl_charAt) 7 = .ok (.iload_n 1, 1) := by decide +kernel
theorem zd_Jl_charAt_8 : decode (zKb K_Jl_charAt) 8 = .ok (.baload, 1) := by decide +kernel
theorem zd_Jl_charAt_9 : decode (zKb K_Jl_charAt) 9 = .ok (.sipush 255, 3) := by decide +kernel
theorem zd_Jl_charAt_12 : decode (zKb K_Jl_charAt) 12 = .ok (.iand, 1) := by decide +kernel
theorem zd_Jl_charAt_13 : decode (zKb K_Jl_charAt) 13 = .ok (.i2c, 1) := by decide +kernel
theorem zd_Jl_charAt_14 : decode (zKb K_Jl_charAt) 14 = .ok (.ireturn, 1) := by decide +kernel
theorem zd_Js_checkIndex_0 : decode (zKb K_Js_checkIndex) 0 = .ok (.iload_n 0, 1) := by decide +kernel
theorem zd_Js_checkIndex_1 : decode (zKb K_Js_checkIndex) 1 = .ok (.iload_n 1, 1) := by decide +kernel
theorem zd_Js_checkIndex_2 : decode (zKb K_Js_checkIndex) 2 = .ok (.getstatic 1053, 3) := by decide +kernel
theorem zd_Js_checkIndex_5 : decode (zKb K_Js_checkIndex) 5 = .ok (.invokestatic 1059, 3) := by decide +kernel
theorem zd_Js_checkIndex_8 : decode (zKb K_Js_checkIndex) 8 = .ok (.pop, 1) := by decide +kernel
theorem zd_Js_checkIndex_9 : decode (zKb K_Js_checkIndex) 9 = .ok (.return_, 1) := by decide +kernel
theorem zd_Jp_checkIndex_0 : decode (zKb K_Jp_checkIndex) 0 = .ok (.iload_n 0, 1) := by decide +kernel
theorem zd_Jp_checkIndex_1 : decode (zKb K_Jp_checkIndex) 1 = .ok (.ifCond .lt 8, 3) := by decide +kernel
theorem zd_Jp_checkIndex_4 : decode (zKb K_Jp_checkIndex) 4 = .ok (.iload_n 0, 1) := by decide +kernel
theorem zd_Jp_checkIndex_5 : decode (zKb K_Jp_checkIndex) 5 = .ok (.iload_n 1, 1) := by decide +kernel
theorem zd_Jp_checkIndex_6 : decode (zKb K_Jp_checkIndex) 6 = .ok (.if_icmp .lt 10, 3) := by decide +kernel
theorem zd_Jp_checkIndex_9 : decode (zKb K_Jp_checkIndex) 9 = .ok (.aload_n 2, 1) := by decide +kernel
theorem zd_Jp_checkIndex_10 : decode (zKb K_Jp_checkIndex) 10 = .ok (.iload_n 0, 1) := by decide +kernel
theorem zd_Jp_checkIndex_11 : decode (zKb K_Jp_checkIndex) 11 = .ok (.iload_n 1, 1) := by decide +kernel
theorem zd_Jp_checkIndex_12 : decode (zKb K_Jp_checkIndex) 12 = .ok (.invokestatic 95, 3) := by decide +kernel
theorem zd_Jp_checkIndex_15 : decode (zKb K_Jp_checkIndex) 15 = .ok (.athrow, 1) := by decide +kernel
theorem zd_Jp_checkIndex_16 : decode (zKb K_Jp_checkIndex) 16 = .ok (.iload_n 0, 1) := by decide +kernel
theorem zd_Jp_checkIndex_17 : decode (zKb K_Jp_checkIndex) 17 = .ok (.ireturn, 1) := by decide +kernel
theorem zfin {ty : FieldType} {x : Int} {Q : Int → zMem → Prop} (hx : p.tables.exec = Jvm.exec) (hb : c.code = cc) (hr : meth.sig.returnType = some ty) (hty : ty ≠ .long) (hlocks : meth.locks = false) (hn : narrow ty (.int (Int32.ofInt x)) = .int (Int32.ofInt x)) (hok : zI x) (hQ : Q x mem) (hH : zHp E mem H) (hS : va_S (zA E) s.heap H locs) {pc : Nat} {lj : Array Slot} (hd : decode cc pc = .ok (.ireturn, 1)) : W p l e R s m args below meth c H locs 0 0 (MQ below (zQc E (some ty) Q) args s 0 0 (zA E)) (F0 m pc lj [.int (Int32.ofInt x)]) := by
  refine W.zret hx hb hr hn (fun t ht _ => ⟨⟨x, mem, ?_, ?_, hQ, by rw [ht]; exact hH⟩, hS.F ht⟩) hS.2.2 hd
  · cases ty <;> first | rfl | exact absurd rfl hty
  · cases ty <;> first | exact hok | exact absurd rfl hty
theorem r_Jp_checkIndex_n {d : Nat} {i n : Int} (hi : 0 ≤ i ∧ i < n) (hzi : zI i) (hzn : zI n) : zCr d K_Jp_checkIndex (fun _ => [.int (Int32.ofInt i), .int (Int32.ofInt n), .null]) mem (fun _ m' => m' = mem) := by
  refine zRaw (by decide +kernel) (fun p l e s m below meth c E R B => ?_)
  obtain ⟨hx, hb, hml, hr, hlocks, hown, hts, hfr, hlo, hOn, hH⟩ := B
  have hl := lv_entry [.int (Int32.ofInt i), .int (Int32.ofInt n), .null] (n := 3) (Nat.le_of_ble_eq_true rfl)
  rw [show zKl K_Jp_checkIndex = 3 from rfl, lg_entry_eq]
  generalize (lg_sl [.int (Int32.ofInt i), .int (Int32.ofInt n), .null] ++ List.replicate (3 - (lg_sl [.int (Int32.ofInt i), .int (Int32.ofInt n), .null]).length) Slot.unset).toArray = lj at hl ⊢
  have hS : va_S (zA E) s.heap s.heap [] := va_S.rf
  have hl0 := lv_at hl 0 rfl
  have hl1 : lj[1]? = some (.val (.int (Int32.ofInt n))) := lv_at hl 1 rfl
  refine lv_iload_n hx hb zd_Jp_checkIndex_0 rfl hl0 ?_
  refine lv_if_lt (tgt := 9) hx hb zd_Jp_checkIndex_1 (by decide) (fun cc => ?_) (fun _ => ?_)
  · rw [z0_i, zlt_i hzi (by unfold zI; omega)] at cc; omega
  refine lv_iload_n hx hb zd_Jp_checkIndex_4 rfl hl0 ?_
  refine lv_iload_n hx hb zd_Jp_checkIndex_5 rfl hl1 ?_
  refine lv_icmp_lt (tgt := 16) hx hb zd_Jp_checkIndex_6 (by decide) (fun _ => ?_) (fun cc => ?_)
  · refine lv_iload_n hx hb zd_Jp_checkIndex_16 rfl hl0 ?_
    exact zfin hx hb hr (fun q => by cases q) hlocks rfl hzi rfl hH hS zd_Jp_checkIndex_17
  · rw [zlt_i hzi hzn] at cc; omega
theorem r_Jp_checkIndex_r {d : Nat} {i n : Int} (hi : 0 ≤ i ∧ i < n) (hzi : zI i) (hzn : zI n) (t : Nat) : zCr d K_Jp_checkIndex (fun _ => [.int (Int32.ofInt i), .int (Int32.ofInt n), .ref t]) mem (fun _ m' => m' = mem) := by
  refine zRaw (by decide +kernel) (fun p l e s m below meth c E R B => ?_)
  obtain ⟨hx, hb, hml, hr, hlocks, hown, hts, hfr, hlo, hOn, hH⟩ := B
  have hl := lv_entry [.int (Int32.ofInt i), .int (Int32.ofInt n), .ref t] (n := 3) (Nat.le_of_ble_eq_true rfl)
  rw [show zKl K_Jp_checkIndex = 3 from rfl, lg_entry_eq]
  generalize (lg_sl [.int (Int32.ofInt i), .int (Int32.ofInt n), .ref t] ++ List.replicate (3 - (lg_sl [.int (Int32.ofInt i), .int (Int32.ofInt n), .ref t]).length) Slot.unset).toArray = lj at hl ⊢
  have hS : va_S (zA E) s.heap s.heap [] := va_S.rf
  have hl0 := lv_at hl 0 rfl
  have hl1 : lj[1]? = some (.val (.int (Int32.ofInt n))) := lv_at hl 1 rfl
  refine lv_iload_n hx hb zd_Jp_checkIndex_0 rfl hl0 ?_
  refine lv_if_lt (tgt := 9) hx hb zd_Jp_checkIndex_1 (by decide) (fun cc => ?_) (fun _ => ?_)
  · rw [z0_i, zlt_i hzi (by unfold zI; omega)] at cc; omega
  refine lv_iload_n hx hb zd_Jp_checkIndex_4 rfl hl0 ?_
  refine lv_iload_n hx hb zd_Jp_checkIndex_5 rfl hl1 ?_
  refine lv_icmp_lt (tgt := 16) hx hb zd_Jp_checkIndex_6 (by decide) (fun _ => ?_) (fun cc => ?_)
  · refine lv_iload_n hx hb zd_Jp_checkIndex_16 rfl hl0 ?_
    exact zfin hx hb hr (fun q => by cases q) hlocks rfl hzi rfl hH hS zd_Jp_checkIndex_17
  · rw [zlt_i hzi hzn] at cc; omega
theorem r_Js_checkIndex {d : Nat} {i n : Int} (hi : 0 ≤ i ∧ i < n) (hzi : zI i) (hzn : zI n) : zCr (d + 1) K_Js_checkIndex (fun _ => [.int (Int32.ofInt i), .int (Int32.ofInt n)]) mem (fun _ m' => m' = mem) := by
  refine zRaw (by decide +kernel) (fun p l e s m below meth c E R B => ?_)
  obtain ⟨hx, hb, hml, hr, hlocks, hown, hts, hfr, hlo, hOn, hH⟩ := B
  have hl := lv_entry [.int (Int32.ofInt i), .int (Int32.ofInt n)] (n := 2) (Nat.le_of_ble_eq_true rfl)
  rw [show zKl K_Js_checkIndex = 2 from rfl, lg_entry_eq]
  generalize (lg_sl [.int (Int32.ofInt i), .int (Int32.ofInt n)] ++ List.replicate (2 - (lg_sl [.int (Int32.ofInt i), .int (Int32.ofInt n)]).length) Slot.unset).toArray = lj at hl ⊢
  have hS : va_S (zA E) s.heap s.heap [] := va_S.rf
  have hl0 := lv_at hl 0 rfl
  have hl1 : lj[1]? = some (.val (.int (Int32.ofInt n))) := lv_at hl 1 rfl
  refine lv_iload_n hx hb zd_Js_checkIndex_0 rfl hl0 ?_
  refine lv_iload_n hx hb zd_Js_checkIndex_1 rfl hl1 ?_
  have key : ∀ q : Value, zCr d K_Jp_checkIndex (fun _ => [.int (Int32.ofInt i), .int (Int32.ofInt n), q]) mem (fun _ m' => m' = mem) → va_Z "jdk/internal/util/Preconditions" "SIOOBE_FORMATTER" "Ljava/util/function/BiFunction;" q (zA E) s s.heap → W p l e R s m ([.int (Int32.ofInt i), .int (Int32.ofInt n)] : List Value).toArray below meth c s.heap [] 0 0 (MQ below (zQc E (zKr K_Js_checkIndex) (fun _ m' => m' = mem)) ([.int (Int32.ofInt i), .int (Int32.ofInt n)] : List Value).toArray s 0 0 (zA E)) (F0 m (0 + 1 + 1) lj [.int (Int32.ofInt n), .int (Int32.ofInt i)]) := by
    intro q hq hZ
    refine va_gets hx hb hZ hS hown (hts _ zf_sio) (fun _ h => h) zd_Js_checkIndex_2 ?_
    refine zcS (K := K_Jp_checkIndex) (As := [.int (Int32.ofInt i), .int (Int32.ofInt n), q]) (rest := []) (idx := 1059) ⟨hx, hb, hml, hown, hts⟩ hq rfl zw_Js_1059 hfr hlo hOn hH hS hl.1 (Nat.zero_le _) zd_Js_checkIndex_5 (fun x mem' H1 locs1 hok hq1 hH1 hS1 => ?_)
    subst hq1
    refine lv_pop hx hb zd_Js_checkIndex_8 rfl ?_
    exact W.vret hx hb hr (fun t ht _ => ⟨⟨0, mem', rfl, trivial, rfl, by rw [ht]; exact hH1⟩, hS1.F ht⟩) hS1.2.2 zd_Js_checkIndex_9
  rcases hOn.2.2.2.2.2.2.2 with h | ⟨t, h⟩
  · exact key _ (r_Jp_checkIndex_n hi hzi hzn) h
  · exact key _ (r_Jp_checkIndex_r hi hzi hzn t) h
theorem zstr_len : ∀ k, k < 8 → zSl.getD k 0 < 2147483648 ∧ (zSb.getD k []).length = zSl.getD k 0 := by decide +kernel
/-- the bytes of the string constants, as numbers -/
def zSc (k i : Nat) : Int := ((zSb.getD k []).getD i 0).toInt
theorem zSc_ok : ∀ k, k < 8 → ∀ i, i < zSl.getD k 0 → 97 ≤ zSc k i ∧ zSc k i ≤ 122 := by decide +kernel
theorem r_Jl_charAt {d k : Nat} {i : Int} (hk : k < 8) (hi : 0 ≤ i ∧ i < zSl.getD k 0) : zCr (d + 2) K_Jl_charAt (fun E => [.ref (zEv E k), .int (Int32.ofInt i)]) mem (fun x m' => x = zSc k i.toNat ∧ m' = mem) := by
  refine zRaw (by decide +kernel) (fun p l e s m below meth c E R B => ?_)
  obtain ⟨hx, hb, hml, hr, hlocks, hown, hts, hfr, hlo, hOn, hH⟩ := B
  have hl := lv_entry [.ref (zEv E k), .int (Int32.ofInt i)] (n := 2) (Nat.le_of_ble_eq_true rfl)
  rw [show zKl K_Jl_charAt = 2 from rfl, lg_entry_eq]
  generalize (lg_sl [.ref (zEv E k), .int (Int32.ofInt i)] ++ List.replicate (2 - (lg_sl [.ref (zEv E k), .int (Int32.ofInt i)]).length) Slot.unset).toArray = lj at hl ⊢
  have hS : va_S (zA E) s.heap s.heap [] := va_S.rf
  have hl0 : lj[0]? = some (.val (.ref (zEv E k))) := lv_at hl 0 rfl
  have hl1 : lj[1]? = some (.val (.int (Int32.ofInt i))) := lv_at hl 1 rfl
  have hlen := (zstr_len k hk).1
  have hzi : zI i := by unfold zI; omega
  have hT := (hOn.2.1.1 k hk).2.2.2
  refine lv_iload_n hx hb zd_Jl_charAt_0 rfl hl1 ?_
  refine lv_aload_n hx hb zd_Jl_charAt_1 rfl hl0 ?_
  refine va_tlen hx hb hT hS (zofN _) zd_Jl_charAt_2 ?_
  refine zcS (K := K_Js_checkIndex) (As := [.int (Int32.ofInt i), .int (Int32.ofInt (zSl.getD k 0 : Int))]) (rest := []) (idx := 9) ⟨hx, hb, hml, hown, hts⟩ (r_Js_checkIndex (d := d) hi hzi (by unfold zI; omega)) rfl zw_Jl_9 hfr hlo hOn hH hS hl.1 (Nat.zero_le _) zd_Jl_charAt_3 (fun x mem' H1 locs1 hok hq1 hH1 hS1 => ?_)
  subst hq1
  refine lv_aload_n hx hb zd_Jl_charAt_6 rfl hl0 ?_
  refine lv_iload_n hx hb zd_Jl_charAt_7 rfl hl1 ?_
  refine va_tb hx hb hT hS1 (zin_i hzi hi.1 hi.2) rfl zd_Jl_charAt_8 ?_
  rw [zcl_i hzi]
  have hc := zSc_ok k hk i.toNat (by omega)
  have e0 : (zSb.getD k []).getD i.toNat 0 = Int32.ofInt (zSc k i.toNat) := (Int32.ofInt_toInt _).symm
  rw [e0]
  generalize hz : zSc k i.toNat = z at hc ⊢
  refine lv_sipush (v := Int32.ofInt 255) hx hb zd_Jl_charAt_9 (by decide +kernel) ?_
  refine lv_iand hx hb zd_Jl_charAt_12 ?_
  have key : ∀ y : Nat, y < 26 → Int32.ofInt (97 + y : Int) &&& Int32.ofInt 255 = Int32.ofInt (97 + y : Int) ∧ ((Int32.ofInt (97 + y : Int)).toUInt32 % 65536).toInt32 = Int32.ofInt (97 + y : Int) ∧ narrow .char (.int (Int32.ofInt (97 + y : Int))) = .int (Int32.ofInt (97 + y : Int)) := by decide +kernel
  obtain ⟨y, hy, rfl⟩ : ∃ y : Nat, y < 26 ∧ z = 97 + (y : Int) := ⟨(z - 97).toNat, by omega, by omega⟩
  obtain ⟨k1, k2, k3⟩ := key y hy
  rw [k1]
  refine lv_i2c (v := Int32.ofInt (97 + y : Int)) hx hb zd_Jl_charAt_13 k2 ?_
  exact zfin hx hb hr (fun q => by cases q) hlocks k3 (by unfold zI; omega) ⟨rfl, rfl⟩ hH1 hS1 zd_Jl_charAt_14
theorem r_Js_isLatin1 {d k : Nat} (hk : k < 8) : zCr d K_Js_isLatin1 (fun E => [.ref (zEk E k)]) mem (fun x m' => x = 1 ∧ m' = mem) := by
  refine zRaw (by decide +kernel) (fun p l e s m below meth c E R B => ?_)
  obtain ⟨hx, hb, hml, hr, hlocks, hown, hts, hfr, hlo, hOn, hH⟩ := B
  have hl := lv_entry [.ref (zEk E k)] (n := 1) (Nat.le_of_ble_eq_true rfl)
  rw [show zKl K_Js_isLatin1 = 1 from rfl, lg_entry_eq]
  generalize (lg_sl [.ref (zEk E k)] ++ List.replicate (1 - (lg_sl [.ref (zEk E k)]).length) Slot.unset).toArray = lj at hl ⊢
  have hS : va_S (zA E) s.heap s.heap [] := va_S.rf
  have hl0 : lj[0]? = some (.val (.ref (zEk E k))) := lv_at hl 0 rfl
  refine va_gets hx hb hOn.2.2.2.2.2.2.1 hS hown (hts _ zf_comp) (fun _ h => h) zd_Js_isLatin1_0 ?_
  refine lv_if_eq (tgt := 17) hx hb zd_Js_isLatin1_3 (by decide) (fun cc => absurd cc (by decide)) (fun _ => ?_)
  refine lv_aload_n hx hb zd_Js_isLatin1_6 rfl hl0 ?_
  refine vk_getf hx hb (hOn.2.1.1 k hk).2.1 hS hown (hts _ zf_coder) (fun _ h => h) zd_Js_isLatin1_7 ?_
  refine lv_if_ne (tgt := 17) hx hb zd_Js_isLatin1_10 (by decide) (fun cc => absurd rfl cc) (fun _ => ?_)
  refine lv_iconst (v := Int32.ofInt 1) hx hb zd_Js_isLatin1_13 rfl ?_
  refine lv_goto (tgt := 18) hx hb zd_Js_isLatin1_14 (by decide) ?_
  exact zfin hx hb hr (fun q => by cases q) hlocks (by decide +kernel) (by unfold zI; omega) ⟨rfl, rfl⟩ hH hS zd_Js_isLatin1_18
theorem r_Js_coder {d k : Nat} (hk : k < 8) : zCr d K_Js_coder (fun E => [.ref (zEk E k)]) mem (fun x m' => x = 0 ∧ m' = mem) := by
  refine zRaw (by decide +kernel) (fun p l e s m below meth c E R B => ?_)
  obtain ⟨hx, hb, hml, hr, hlocks, hown, hts, hfr, hlo, hOn, hH⟩ := B
  have hl := lv_entry [.ref (zEk E k)] (n := 1) (Nat.le_of_ble_eq_true rfl)
  rw [show zKl K_Js_coder = 1 from rfl, lg_entry_eq]
  generalize (lg_sl [.ref (zEk E k)] ++ List.replicate (1 - (lg_sl [.ref (zEk E k)]).length) Slot.unset).toArray = lj at hl ⊢
  have hS : va_S (zA E) s.heap s.heap [] := va_S.rf
  have hl0 : lj[0]? = some (.val (.ref (zEk E k))) := lv_at hl 0 rfl
  refine va_gets hx hb hOn.2.2.2.2.2.2.1 hS hown (hts _ zf_comp) (fun _ h => h) zd_Js_coder_0 ?_
  refine lv_if_eq (tgt := 13) hx hb zd_Js_coder_3 (by decide) (fun cc => absurd cc (by decide)) (fun _ => ?_)
  refine lv_aload_n hx hb zd_Js_coder_6 rfl hl0 ?_
  refine vk_getf hx hb (hOn.2.1.1 k hk).2.1 hS hown (hts _ zf_coder) (fun _ h => h) zd_Js_coder_7 ?_
  refine lv_goto (tgt := 14) hx hb zd_Js_coder_10 (by decide) ?_
  exact zfin (x := 0) hx hb hr (fun q => by cases q) hlocks (by decide +kernel) (by unfold zI; omega) ⟨rfl, rfl⟩ hH hS zd_Js_coder_14
theorem r_Js_length {d k : Nat} (hk : k < 8) : zCr (d + 1) K_Js_length (fun E => [.ref (zEk E k)]) mem (fun x m' => x = zSl.getD k 0 ∧ m' = mem) := by
  refine zRaw (by decide +kernel) (fun p l e s m below meth c E R B => ?_)
  obtain ⟨hx, hb, hml, hr, hlocks, hown, hts, hfr, hlo, hOn, hH⟩ := B
  have hl := lv_entry [.ref (zEk E k)] (n := 1) (Nat.le_of_ble_eq_true rfl)
  rw [show zKl K_Js_length = 1 from rfl, lg_entry_eq]
  generalize (lg_sl [.ref (zEk E k)] ++ List.replicate (1 - (lg_sl [.ref (zEk E k)]).length) Slot.unset).toArray = lj at hl ⊢
  have hS : va_S (zA E) s.heap s.heap [] := va_S.rf
  have hl0 : lj[0]? = some (.val (.ref (zEk E k))) := lv_at hl 0 rfl
  have hlen := (zstr_len k hk).1
  refine lv_aload_n hx hb zd_Js_length_0 rfl hl0 ?_
  refine vk_getf hx hb (hOn.2.1.1 k hk).2.2.1 hS hown (hts _ zf_value) (fun _ h => h) zd_Js_length_1 ?_
  refine va_tlen hx hb (hOn.2.1.1 k hk).2.2.2 hS (zofN _) zd_Js_length_4 ?_
  refine lv_aload_n hx hb zd_Js_length_5 rfl hl0 ?_
  refine zcV (K := K_Js_coder) (b := zEk E k) (As := []) (rest := [.int (Int32.ofInt (zSl.getD k 0 : Int))]) (idx := 335) (C := "java/lang/String") ⟨hx, hb, hml, hown, hts⟩ (r_Js_coder (mem := mem) (d := d) hk) rfl rfl zw_Js_335 rfl hfr hlo hOn hH hS (vk_recv hOn.2.1 hk hS) hl.1 (Nat.le_of_ble_eq_true rfl) zd_Js_length_6 (fun x mem' H1 locs1 hok hq1 hH1 hS1 => ?_)
  obtain ⟨rfl, rfl⟩ := hq1
  refine lv_ishr hx hb zd_Js_length_9 ?_
  have e1 : Int32.ofInt (zSl.getD k 0 : Int) >>> (Int32.ofInt 0 &&& 31) = Int32.ofInt (zSl.getD k 0 : Int) := by
    rw [show Int32.ofInt 0 = 0 by decide]; exact sb_shr0 _
  rw [e1]
  exact zfin hx hb hr (fun q => by cases q) hlocks rfl (by unfold zI; omega) ⟨rfl, rfl⟩ hH1 hS1 zd_Js_length_10
theorem r_Js_charAt {d k : Nat} {i : Int} (hk : k < 8) (hi : 0 ≤ i ∧ i < zSl.getD k 0) : zCr (d + 3) K_Js_charAt (fun E => [.ref (zEk E k), .int (Int32.ofInt i)]) mem (fun x m' => x = zSc k i.toNat ∧ m' = mem) := by
  refine zRaw (by decide +kernel) (fun p l e s m below meth c E R B => ?_)
  obtain ⟨hx, hb, hml, hr, hlocks, hown, hts, hfr, hlo, hOn, hH⟩ := B
  have hl := lv_entry [.ref (zEk E k), .int (Int32.ofInt i)] (n := 2) (Nat.le_of_ble_eq_true rfl)
  rw [show zKl K_Js_charAt = 2 from rfl, lg_entry_eq]
  generalize (lg_sl [.ref (zEk E k), .int (Int32.ofInt i)] ++ List.replicate (2 - (lg_sl [.ref (zEk E k), .int (Int32.ofInt i)]).length) Slot.unset).toArray = lj at hl ⊢
  have hS : va_S (zA E) s.heap s.heap [] := va_S.rf
  have hl0 : lj[0]? = some (.val (.ref (zEk E k))) := lv_at hl 0 rfl
  have hl1 : lj[1]? = some (.val (.int (Int32.ofInt i))) := lv_at hl 1 rfl
  refine lv_aload_n hx hb zd_Js_charAt_0 rfl hl0 ?_
  refine zcV (K := K_Js_isLatin1) (b := zEk E k) (As := []) (rest := []) (idx := 492) (C := "java/lang/String") ⟨hx, hb, hml, hown, hts⟩ (r_Js_isLatin1 (mem := mem) (d := d + 2) hk) rfl rfl zw_Js_492 rfl hfr hlo hOn hH hS (vk_recv hOn.2.1 hk hS) hl.1 (by decide) zd_Js_charAt_1 (fun x mem' H1 locs1 hok hq1 hH1 hS1 => ?_)
  obtain ⟨rfl, rfl⟩ := hq1
  refine lv_if_eq (tgt := 16) hx hb zd_Js_charAt_4 (by decide) (fun cc => absurd cc (by decide +kernel)) (fun _ => ?_)
  refine lv_aload_n hx hb zd_Js_charAt_7 rfl hl0 ?_
  refine vk_getf hx hb (hOn.2.1.1 k hk).2.2.1 hS1 hown (hts _ zf_value) (fun _ h => h) zd_Js_charAt_8 ?_
  refine lv_iload_n hx hb zd_Js_charAt_11 rfl hl1 ?_
  refine zcS (K := K_Jl_charAt) (As := [.ref (zEv E k), .int (Int32.ofInt i)]) (rest := []) (idx := 495) ⟨hx, hb, hml, hown, hts⟩ (r_Jl_charAt (d := d) hk hi) rfl zw_Js_495 hfr hlo hOn hH1 hS1 hl.1 (by decide) zd_Js_charAt_12 (fun x mem2 H2 locs2 hok2 hq2 hH2 hS2 => ?_)
  obtain ⟨rfl, rfl⟩ := hq2
  have hc := zSc_ok k hk i.toNat (by omega)
  have key : ∀ y : Nat, y < 26 → narrow .char (.int (Int32.ofInt (97 + y : Int))) = .int (Int32.ofInt (97 + y : Int)) := by decide +kernel
  have e3 : zSc k i.toNat = 97 + (((zSc k i.toNat - 97).toNat : Nat) : Int) := by omega
  have kk := key (zSc k i.toNat - 97).toNat (by omega)
  rw [← e3] at kk
  exact zfin hx hb hr (fun q => by cases q) hlocks kk (by unfold zI; omega) ⟨rfl, rfl⟩ hH2 hS2 zd_Js_charAt_15
theorem c_Js_length {d : Nat} {k : Int} {Q : Int → zMem → Prop} (hk : 0 ≤ k ∧ k < 8) (hQ : Q (zSl.getD k.toNat 0) mem) : zC (d + 2) K_Js_length [(3, k)] mem Q :=
  zC.mono (zC.post (zC_of_r (r_Js_length (d := d) (k := k.toNat) (by omega))) (fun x m' h => by obtain ⟨rfl, rfl⟩ := h; exact hQ)) (by omega)
theorem c_Js_charAt {d : Nat} {k i : Int} {Q : Int → zMem → Prop} (hk : 0 ≤ k ∧ k < 8) (hi : 0 ≤ i ∧ i < zSl.getD k.toNat 0) (hQ : Q (zSc k.toNat i.toNat) mem) : zC (d + 3) K_Js_charAt [(3, k), (0, i)] mem Q :=
  zC.post (zC_of_r (r_Js_charAt (d := d) (k := k.toNat) (by omega) hi)) (fun x m' h => by obtain ⟨rfl, rfl⟩ := h; exact hQ)
end
