section
theorem zC.post {d : Nat} {K : zKey} {av : List zV} {mem : zMem} {Q Q' : Int → zMem → Prop} (h : zC d K av mem Q') (hq : ∀ x m', Q' x m' → Q x m') : zC d K av mem Q := by
  intro l E d' hd p e ha hc hk s m args below hf hs hp hK
  obtain ⟨n, o, h1, h2, h3, ⟨⟨x, mem', e1, e2, e3, e4⟩, e5⟩, e6⟩ := h l E d' hd p e ha hc hk s m args below hf hs hp hK
  exact ⟨n, o, h1, h2, h3, ⟨⟨x, mem', e1, e2, hq _ _ e3, e4⟩, e5⟩, e6⟩
theorem zall {α : Type} {F : α → Prop} {x : α} (h : F x) : ∀ z, z = x → F z := fun z hz => by subst hz; exact h
theorem zne {x y : Int} {A B : Prop} (h1 : x ≠ y → A) (h2 : x = y → B) : (zcmp .ne x y → A) ∧ (¬ zcmp .ne x y → B) := ⟨h1, fun q => h2 (Decidable.of_not_not q)⟩
theorem zeq {x y : Int} {A B : Prop} (h1 : x = y → A) (h2 : x ≠ y → B) : (zcmp .eq x y → A) ∧ (¬ zcmp .eq x y → B) := ⟨h1, h2⟩
theorem zlt {x y : Int} {A B : Prop} (h1 : x < y → A) (h2 : y ≤ x → B) : (zcmp .lt x y → A) ∧ (¬ zcmp .lt x y → B) := ⟨h1, fun q => h2 (Int.not_lt.mp q)⟩
theorem zge {x y : Int} {A B : Prop} (h1 : y ≤ x → A) (h2 : x < y → B) : (zcmp .ge x y → A) ∧ (¬ zcmp .ge x y → B) := ⟨h1, fun q => h2 (Int.not_le.mp q)⟩
theorem zgt {x y : Int} {A B : Prop} (h1 : y < x → A) (h2 : x ≤ y → B) : (zcmp .gt x y → A) ∧ (¬ zcmp .gt x y → B) := ⟨h1, fun q => h2 (Int.not_lt.mp q)⟩
theorem zle {x y : Int} {A B : Prop} (h1 : x ≤ y → A) (h2 : y < x → B) : (zcmp .le x y → A) ∧ (¬ zcmp .le x y → B) := ⟨h1, fun q => h2 (Int.not_le.mp q)⟩
def zch : Nat → List Cond
  | 0 => k2_sels lw_privs
  | 1 => tables_1_1
  | 2 => tables_1_2
  | 3 => tables_1_3
  | 4 => tables_1_4
  | 5 => tables_1_5
  | 6 => tables_1_6
  | _ => tables_1_7
theorem zch_in {c : Nat} {w : Cond} (h : w ∈ zch c) : w ∈ lw_tbl := by
  unfold lw_tbl tables_1
  simp only [List.mem_append]
  unfold zch at h
  split at h <;> simp [h]
def zwb (p : Nat) (w : Cond) : Bool := decide ((zch (p / 1000))[p % 1000]? = some w) && goodWord w
theorem zwb_of {p : Nat} {w : Cond} (h : zwb p w = true) : w ∈ zgood := by
  unfold zwb at h
  simp only [Bool.and_eq_true, decide_eq_true_eq] at h
  exact zgood_of (zch_in (List.mem_of_getElem? h.1)) h.2
def zfb (own : String) (f : Nat × Nat × Nat × Nat) : Bool := match vwCl[f.2.1]? with
  | some q => Nat.blt f.2.2.1 q.2.2 && Nat.blt f.2.1 13 && zwb f.2.2.2 (.fieldLink own f.1 (q.2.1 f.2.2.1).1 (q.2.1 f.2.2.1).2.1 (q.2.1 f.2.2.1).2.2.1)
  | none => false
def zmb (own : String) (c : Nat × zKey × Nat × Nat × List Nat) : Bool := match c with
  | (i, K, kd, n, ps) => match kd with
    | 101 => zwb (ps.getD 0 0) (.methodLink own i arraycopyName) && zwb (ps.getD 1 0) (.native arraycopyName) && zwb (ps.getD 2 0) (.static arraycopyName) && zwb (ps.getD 3 0) (.initialized "java/lang/System")
    | kd => zwb (ps.getD 0 0) (.methodLink own i (zKy K)) && zwb (ps.getD 1 0) (.code (zKy K) (zKb K) (zKl K) (zKr K)) && zwb (ps.getD 2 0) (.initialized (zKy K).cls) &&
      decide ((zKy K).cls ≠ "java/lang/invoke/MethodHandle") && decide ((zKy K).cls ≠ "java/lang/invoke/VarHandle") && decide ((parseMethodDescriptor (zKy K).desc).map (fun d => d.parameters.length) = some n) && Nat.ble (zKl K) 81 &&
      (match kd with
      | 100 => zwb (ps.getD 3 0) (.static (zKy K))
      | kd => zwb (ps.getD 3 0) (.instanceMethod (zKy K)) && zwb (ps.getD 4 0) (.selects (zKy K).cls (zKy K) (zKy K)) && (match kd with
        | 102 => decide ((zKy K).cls = "java/lang/String")
        | kd => match vwCl[kd]? with
          | some q => decide (q.1 = (zKy K).cls)
          | none => false))
def znb (own : String) (c : Nat × Nat × Int × Nat) : Bool := match c with
  | (i, 0, v, p) => zwb p (.constant own i (Int32.ofInt v)) && decide (-2147483648 ≤ v) && decide (v < 2147483648)
  | (i, 1, v, p) => zwb p (.constantLong own i (Int64.ofInt v)) && decide (-9223372036854775808 ≤ v) && decide (v < 9223372036854775808)
  | (i, 3, v, _) => decide (own = "OtherDoor$Tape") && Nat.blt v.toNat 8 && Nat.beq (zSi.getD v.toNat 0) i
  | (i, 4, _, p) => zwb p (.fieldLink own i "OtherDoor$Rounds" "HAVING" "[I")
  | _ => false
def zcb (M : zMt) : Bool := (zMc M).all (fun c => decide (decode (zKb (zMk M)) c.1 = .ok (c.2.1, c.2.2)) && zlq c.1 c.2.1 c.2.2)
def zob (M : zMt) : Bool := (zMf M).all (zfb (zMo M)) && (zMm M).all (zmb (zMo M)) && (zMn M).all (znb (zMo M)) && decide ((zKy (zMk M)).cls = zMo M)
theorem zCF_0 : zCF 0 (RX0, TX0, 4) tyX0 := by
  refine ⟨fun w hw => ?_, tyX0_ok, nmX0, by decide +kernel, by decide +kernel⟩
  have h : ∀ k, k < 4 → zwb (([2117, 2119, 2121, 2123] : List Nat).getD k 0) (u_lay RX0 TX0 k) = true := by decide +kernel
  obtain ⟨k, hk, rfl⟩ := List.mem_map.mp hw
  exact zwb_of (h k (List.mem_range.mp hk))
theorem zCF_1 : zCF 1 (RX1, TX1, 9) tyX1 := by
  refine ⟨fun w hw => ?_, tyX1_ok, nmX1, by decide +kernel, by decide +kernel⟩
  have h : ∀ k, k < 9 → zwb (([1080, 1082, 1084, 1086, 1088, 1090, 1092, 1094, 1096] : List Nat).getD k 0) (u_lay RX1 TX1 k) = true := by decide +kernel
  obtain ⟨k, hk, rfl⟩ := List.mem_map.mp hw
  exact zwb_of (h k (List.mem_range.mp hk))
theorem zCF_2 : zCF 2 (RX2, TX2, 5) tyX2 := by
  refine ⟨fun w hw => ?_, tyX2_ok, nmX2, by decide +kernel, by decide +kernel⟩
  have h : ∀ k, k < 5 → zwb (([1142, 1144, 1146, 1148, 1150] : List Nat).getD k 0) (u_lay RX2 TX2 k) = true := by decide +kernel
  obtain ⟨k, hk, rfl⟩ := List.mem_map.mp hw
  exact zwb_of (h k (List.mem_range.mp hk))
theorem zCF_3 : zCF 3 (RX3, TX3, 7) tyX3 := by
  refine ⟨fun w hw => ?_, tyX3_ok, nmX3, by decide +kernel, by decide +kernel⟩
  have h : ∀ k, k < 7 → zwb (([2036, 2038, 2040, 2042, 2044, 2046, 2048] : List Nat).getD k 0) (u_lay RX3 TX3 k) = true := by decide +kernel
  obtain ⟨k, hk, rfl⟩ := List.mem_map.mp hw
  exact zwb_of (h k (List.mem_range.mp hk))
theorem zCF_4 : zCF 4 (RX4, TX4, 3) tyX4 := by
  refine ⟨fun w hw => ?_, tyX4_ok, nmX4, by decide +kernel, by decide +kernel⟩
  have h : ∀ k, k < 3 → zwb (([1167, 1169, 1171] : List Nat).getD k 0) (u_lay RX4 TX4 k) = true := by decide +kernel
  obtain ⟨k, hk, rfl⟩ := List.mem_map.mp hw
  exact zwb_of (h k (List.mem_range.mp hk))
theorem zCF_5 : zCF 5 (RX5, TX5, 13) tyX5 := by
  refine ⟨fun w hw => ?_, tyX5_ok, nmX5, by decide +kernel, by decide +kernel⟩
  have h : ∀ k, k < 13 → zwb (([1200, 1202, 1204, 1206, 1208, 1210, 1212, 1214, 1216, 1218, 1220, 1222, 1224] : List Nat).getD k 0) (u_lay RX5 TX5 k) = true := by decide +kernel
  obtain ⟨k, hk, rfl⟩ := List.mem_map.mp hw
  exact zwb_of (h k (List.mem_range.mp hk))
theorem zCF_6 : zCF 6 (RX6, TX6, 4) tyX6 := by
  refine ⟨fun w hw => ?_, tyX6_ok, nmX6, by decide +kernel, by decide +kernel⟩
  have h : ∀ k, k < 4 → zwb (([2061, 2063, 2065, 2067] : List Nat).getD k 0) (u_lay RX6 TX6 k) = true := by decide +kernel
  obtain ⟨k, hk, rfl⟩ := List.mem_map.mp hw
  exact zwb_of (h k (List.mem_range.mp hk))
theorem zCF_7 : zCF 7 (RX7, TX7, 6) tyX7 := by
  refine ⟨fun w hw => ?_, tyX7_ok, nmX7, by decide +kernel, by decide +kernel⟩
  have h : ∀ k, k < 6 → zwb (([2141, 2143, 2145, 2147, 2149, 2151] : List Nat).getD k 0) (u_lay RX7 TX7 k) = true := by decide +kernel
  obtain ⟨k, hk, rfl⟩ := List.mem_map.mp hw
  exact zwb_of (h k (List.mem_range.mp hk))
theorem zCF_8 : zCF 8 (RX8, TX8, 9) tyX8 := by
  refine ⟨fun w hw => ?_, tyX8_ok, nmX8, by decide +kernel, by decide +kernel⟩
  have h : ∀ k, k < 9 → zwb (([2086, 2088, 2090, 2092, 2094, 2096, 2098, 2100, 2102] : List Nat).getD k 0) (u_lay RX8 TX8 k) = true := by decide +kernel
  obtain ⟨k, hk, rfl⟩ := List.mem_map.mp hw
  exact zwb_of (h k (List.mem_range.mp hk))
theorem zCF_9 : zCF 9 (RX9, TX9, 3) tyX9 := by
  refine ⟨fun w hw => ?_, tyX9_ok, nmX9, by decide +kernel, by decide +kernel⟩
  have h : ∀ k, k < 3 → zwb (([1122, 1124, 1126] : List Nat).getD k 0) (u_lay RX9 TX9 k) = true := by decide +kernel
  obtain ⟨k, hk, rfl⟩ := List.mem_map.mp hw
  exact zwb_of (h k (List.mem_range.mp hk))
theorem zCF_10 : zCF 10 (RX10, TX10, 8) tyX10 := by
  refine ⟨fun w hw => ?_, tyX10_ok, nmX10, by decide +kernel, by decide +kernel⟩
  have h : ∀ k, k < 8 → zwb (([2004, 2006, 2008, 2010, 2012, 2014, 2016, 2018] : List Nat).getD k 0) (u_lay RX10 TX10 k) = true := by decide +kernel
  obtain ⟨k, hk, rfl⟩ := List.mem_map.mp hw
  exact zwb_of (h k (List.mem_range.mp hk))
theorem zCF_11 : zCF 11 (RX11, TX11, 13) tyX11 := by
  refine ⟨fun w hw => ?_, tyX11_ok, nmX11, by decide +kernel, by decide +kernel⟩
  have h : ∀ k, k < 13 → zwb (([2167, 2169, 2171, 2173, 2175, 2177, 2179, 2181, 2183, 2185, 2187, 2189, 2191] : List Nat).getD k 0) (u_lay RX11 TX11 k) = true := by decide +kernel
  obtain ⟨k, hk, rfl⟩ := List.mem_map.mp hw
  exact zwb_of (h k (List.mem_range.mp hk))
theorem zCF_12 : zCF 12 (RX12, TX12, 44) tyX12 := by
  refine ⟨fun w hw => ?_, tyX12_ok, nmX12, by decide +kernel, by decide +kernel⟩
  have h : ∀ k, k < 44 → zwb (([5181, 5183, 5185, 5187, 5189, 5191, 5193, 5195, 5197, 5199, 5201, 5203, 5205, 5207, 5209, 5211, 5213, 5215, 5217, 5219, 5221, 5223, 5225, 5227, 5229, 5231, 5233, 5235, 5237, 5239, 6001, 6003, 6005, 6007, 6009, 6011, 6013, 6015, 6017, 6019, 6021, 6023, 6025, 6027] : List Nat).getD k 0) (u_lay RX12 TX12 k) = true := by decide +kernel
  obtain ⟨k, hk, rfl⟩ := List.mem_map.mp hw
  exact zwb_of (h k (List.mem_range.mp hk))
theorem zCF_all : ∀ (ci : Nat) (q : vw_C), vwCl[ci]? = some q → ∃ ty, zCF ci q ty
  | 0, q, h => by cases h; exact ⟨_, zCF_0⟩
  | 1, q, h => by cases h; exact ⟨_, zCF_1⟩
  | 2, q, h => by cases h; exact ⟨_, zCF_2⟩
  | 3, q, h => by cases h; exact ⟨_, zCF_3⟩
  | 4, q, h => by cases h; exact ⟨_, zCF_4⟩
  | 5, q, h => by cases h; exact ⟨_, zCF_5⟩
  | 6, q, h => by cases h; exact ⟨_, zCF_6⟩
  | 7, q, h => by cases h; exact ⟨_, zCF_7⟩
  | 8, q, h => by cases h; exact ⟨_, zCF_8⟩
  | 9, q, h => by cases h; exact ⟨_, zCF_9⟩
  | 10, q, h => by cases h; exact ⟨_, zCF_10⟩
  | 11, q, h => by cases h; exact ⟨_, zCF_11⟩
  | 12, q, h => by cases h; exact ⟨_, zCF_12⟩
  | n + 13, q, h => by simp [vwCl] at h
theorem zfb_of {own : String} {f : Nat × Nat × Nat × Nat} (h : zfb own f = true) : zFf own f := by
  unfold zfb at h
  split at h
  · rename_i q hq
    simp only [Bool.and_eq_true] at h
    obtain ⟨⟨h1, h0⟩, h2⟩ := h
    obtain ⟨ty, hty⟩ := zCF_all _ _ hq
    have h0 : f.2.1 < 13 := Nat.le_of_ble_eq_true h0
    exact ⟨q, ty, hq, by omega, Nat.le_of_ble_eq_true h1, hty, zwb_of h2⟩
  · cases h
theorem znb_of {own : String} {c : Nat × Nat × Int × Nat} (h : znb own c = true) : zNf own c := by
  unfold znb at h
  split at h
  · simp only [Bool.and_eq_true, decide_eq_true_eq] at h
    exact ⟨zwb_of h.1.1, h.1.2, h.2⟩
  · simp only [Bool.and_eq_true, decide_eq_true_eq] at h
    exact ⟨zwb_of h.1.1, h.1.2, h.2⟩
  · simp only [Bool.and_eq_true, decide_eq_true_eq] at h
    exact ⟨h.1.1, Nat.le_of_ble_eq_true h.1.2, Nat.eq_of_beq_eq_true h.2⟩
  · exact zwb_of h
  · cases h
theorem zmb_of {own : String} {c : Nat × zKey × Nat × Nat × List Nat} (h : zmb own c = true) : zMf1 own c := by
  obtain ⟨i, K, kd, n, ps⟩ := c
  unfold zmb at h
  dsimp only at h
  split at h
  · simp only [Bool.and_eq_true] at h
    obtain ⟨⟨⟨h1, h2⟩, h3⟩, h4⟩ := h
    exact ⟨fun q => absurd rfl q, fun q => absurd (show (101 : Nat) < 100 from q) (by decide), fun q => absurd (show (101 : Nat) = 102 from q) (by decide), fun q => absurd (show (101 : Nat) = 100 from q) (by decide), fun _ => ⟨zwb_of h1, zwb_of h2, zwb_of h3, zwb_of h4⟩⟩
  · rename_i h101
    simp only [Bool.and_eq_true, decide_eq_true_eq] at h
    obtain ⟨⟨⟨⟨⟨⟨⟨h1, h2⟩, h3⟩, h4⟩, h5⟩, h6⟩, h7⟩, h8⟩ := h
    refine ⟨fun _ => ⟨zwb_of h2, zwb_of h1, zwb_of h3, h4, h5, h6, Nat.le_of_ble_eq_true h7⟩, ?_⟩
    split at h8
    · exact ⟨fun q => absurd (show (100 : Nat) < 100 from q) (by decide), fun q => absurd (show (100 : Nat) = 102 from q) (by decide), fun _ => zwb_of h8, fun q => absurd (show (100 : Nat) = 101 from q) (by decide)⟩
    · rename_i h100
      simp only [Bool.and_eq_true] at h8
      obtain ⟨⟨h8, h9⟩, h10⟩ := h8
      split at h10
      · exact ⟨fun q => absurd (show (102 : Nat) < 100 from q) (by decide), fun _ => ⟨of_decide_eq_true h10, zwb_of h8, zwb_of h9⟩, fun q => absurd (show (102 : Nat) = 100 from q) (by decide), fun q => absurd (show (102 : Nat) = 101 from q) (by decide)⟩
      · rename_i h102
        split at h10
        · rename_i q hq
          exact ⟨fun _ => ⟨⟨q, hq, of_decide_eq_true h10⟩, zwb_of h8, zwb_of h9⟩, fun q => absurd q h102, fun q => absurd q h100, fun q => absurd q h101⟩
        · cases h10
theorem zOK_of {M : zMt} (h1 : zcb M = true) (h2 : zob M = true) : zOK M := by
  unfold zcb at h1
  unfold zob at h2
  simp only [Bool.and_eq_true, List.all_eq_true, decide_eq_true_eq] at h1 h2
  exact ⟨h1, fun f hf => zfb_of (h2.1.1.1 f hf), fun c hc => zmb_of (h2.1.1.2 c hc), fun c hc => znb_of (h2.1.2 c hc), h2.2⟩
end
