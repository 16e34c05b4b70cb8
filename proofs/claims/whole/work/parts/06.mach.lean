section
/-! The mini machine: one instruction ('zone'), a piece of code up to cuts ('zseg'), contracts ('zC'), the rest of a method ('zG'). -/
/-- a method: key; class; code (pc, instruction, length); fields (index, class, slot, place of the word); calls (index, key, kind, arguments, places); constants (index, kind as a value's tag, value, place); the script's length and one, and its ints, for the law alone. Kinds of calls: below 100 on an object of that class; 100 static; 101 arraycopy; 102 on a string -/
abbrev zMt : Type := zKey × String × List (Nat × Instr × Nat) × List (Nat × Nat × Nat × Nat) × List (Nat × zKey × Nat × Nat × List Nat) × List (Nat × Nat × Int × Nat) × Nat × (Nat → Int)
def zMk (M : zMt) : zKey := M.1
def zMo (M : zMt) : String := M.2.1
def zMc (M : zMt) : List (Nat × Instr × Nat) := M.2.2.1
def zMf (M : zMt) : List (Nat × Nat × Nat × Nat) := M.2.2.2.1
def zMm (M : zMt) : List (Nat × zKey × Nat × Nat × List Nat) := M.2.2.2.2.1
def zMn (M : zMt) : List (Nat × Nat × Int × Nat) := M.2.2.2.2.2.1
def zMx (M : zMt) : Nat × (Nat → Int) := M.2.2.2.2.2.2
def zKy (K : zKey) : MethodName := K.1
def zKb (K : zKey) : ByteArray := K.2.1
def zKl (K : zKey) : Nat := K.2.2.1
def zKr (K : zKey) : Option FieldType := K.2.2.2
def zat {α : Type} : List (Nat × α) → Nat → Option α
  | [], _ => none
  | (i, a) :: r, k => match Nat.beq i k with
    | true => some a
    | false => zat r k
def zgood : List Cond := lw_tbl.filter goodWord
def zW (K : zKey) : List Cond := Cond.code (zKy K) (zKb K) (zKl K) (zKr K) :: zgood
def zRm (d : Nat) : Room := { frames := d, cells := 0, slots := 0, locals := 100 * d }
/-- the string constants: index in Tape's file, text, bytes -/
def zSi : List Nat := [90, 99, 104, 109, 114, 148, 150, 152]
def zSt : List String := ["rooms", "law", "door", "one", "walled", "red", "green", "blue"]
def zSb : List (List Int32) := [[114, 111, 111, 109, 115], [108, 97, 119], [100, 111, 111, 114], [111, 110, 101], [119, 97, 108, 108, 101, 100], [114, 101, 100], [103, 114, 101, 101, 110], [98, 108, 117, 101]]
def zSl : List Nat := [5, 3, 4, 3, 6, 3, 5, 4]
def zHV : List Int := [-1431655766, -858993460, -252645136, -16711936, -65536]
/-- what lies outside the block: strings, HAVING, the script, statics of the JDK -/
def zXt (E : zEnv) (U : State) (H : Heap) : Prop :=
  vk_S 8 zSl zSb (zEk E) (zEv E) (zA E) U H ∧ (∀ i, i < 8 → vk_R "OtherDoor$Tape" (zSi.getD i 0) (zSt.getD i "") (zEk E i) U) ∧
  va_Z "OtherDoor$Rounds" "HAVING" "[I" (.ref (zEh E)) (zA E) U H ∧ va_T .int (zEh E) 5 (fun j => .int (Int32.ofInt (zHV.getD j 0))) (zA E) U H ∧
  (va_X (zEs E) (zEl E) (zEx E) U H ∧ zEl E ≤ 3072 ∧ ¬ zA E (zEs E)) ∧
  va_Z "java/lang/String" "COMPACT_STRINGS" "Z" (.int 1) (zA E) U H ∧ va_Zq "jdk/internal/util/Preconditions" "SIOOBE_FORMATTER" "Ljava/util/function/BiFunction;" (zA E) U H
def zOn (E : zEnv) (U : State) : Prop := va_K (zED E) vwCl (ztys E) U ∧ zXt E U U.heap
def zHp (E : zEnv) (mem : zMem) (H : Heap) : Prop := zrg mem ∧ va_P (zED E) vwCl (zws E mem) H
def zPc (E : zEnv) (av : List zV) (mem : zMem) : Array Value → State → Prop := fun v U => v = (av.map (zv E)).toArray ∧ (∀ x ∈ av, zok x) ∧ zOn E U ∧ zHp E mem U.heap
/-- the tag of a result -/
def zrtag : Option FieldType → Nat
  | none => 9
  | some .long => 1
  | some _ => 0
def zret (E : zEnv) (r : Option FieldType) (x : Int) : Option Value := match r with
  | none => none
  | some .long => some (.long (Int64.ofInt x))
  | some _ => some (.int (Int32.ofInt x))
def zQc (E : zEnv) (r : Option FieldType) (Q : Int → zMem → Prop) : Array Value → State → Outcome → State → Prop := fun _ st o t =>
  (∃ (x : Int) (mem' : zMem), o = .returned (zret E r x) ∧ zok (zrtag r, x) ∧ Q x mem' ∧ zHp E mem' t.heap) ∧ va_F (zA E) st t
/-- THE CONTRACT of a method: called with av in a world that holds mem, at d frames and more, it returns, and Q holds of its answer and of the memory behind it -/
def zC (d : Nat) (K : zKey) (av : List zV) (mem : zMem) (Q : Int → zMem → Prop) : Prop :=
  ∀ (l : Launch) (E : zEnv) (d' : Nat), d ≤ d' → Met l (zKy K) (zW K) (zRm d') (zPc E av mem) (zQc E (zKr K) Q) 0 0 (zA E)
def zCk (d : Nat) (K : zKey) (av : List zV) (mem : zMem) (Q : Int → zMem → Prop) : Prop := match d with
  | 0 => False
  | e + 1 => zC e K av mem Q
/-- what a method's body knows of its place -/
def zCx (d : Nat) (M : zMt) (E : zEnv) (p : Program) (R : Room) (s : State) (m : MethodId) (args : Array Value) (meth : Method) (c : Code) : Prop :=
  p.tables.exec = Jvm.exec ∧ c.code = zKb (zMk M) ∧ c.maxLocals = zKl (zMk M) ∧ s.vm.findClass (zMo M) = some m.cls ∧ (∀ w ∈ zgood, w.before args s = true) ∧ d ≤ R.frames ∧ 100 * d ≤ R.locals ∧ zOn E s ∧ ((zMx M).1 = 0 ∨ zMx M = (zEl E + 1, fun j => (zEx E j).toInt))
/-- the locals, as far as they are known -/
def zLo (E : zEnv) (n : Nat) (ls : List zV) (lj : Array Slot) : Prop :=
  lj.size = n ∧ ls.length ≤ n ∧ lv_wf lj ∧ ∀ (i : Nat) (v : zV), ls[i]? = some v → v.1 < 9 → lj[i]? = some (.val (zv E v))
/-- the method's end is answered for: at a return instruction with an answer for which Q holds -/
def zRt (M : zMt) (E : zEnv) (Q : Int → zMem → Prop) (p : Program) (l : Launch) (e : Env) (R : Room) (s : State) (m : MethodId) (args : Array Value) (below : List Frame) (meth : Method) (c : Code) (cells slots : Nat) (Qf : State → Prop) : Prop :=
  ∀ (x : Int) (mem' : zMem) (H' : Heap) (locs' : List Loc) (pc : Nat) (lj : Array Slot) (i : Instr), Q x mem' → zok (zrtag (zKr (zMk M)), x) → (zKr (zMk M) = some .boolean → x = 0 ∨ x = 1) → zHp E mem' H' → va_S (zA E) s.heap H' locs' →
    decode (zKb (zMk M)) pc = .ok (i, 1) → ((zKr (zMk M) = none ∧ i = .return_) ∨ (zKr (zMk M) = some .long ∧ i = .lreturn) ∨ ((zKr (zMk M) = some .int ∨ zKr (zMk M) = some .boolean) ∧ i = .ireturn)) →
    W p l e R s m args below meth c H' locs' cells slots Qf (F0 m pc lj (zret E (zKr (zMk M)) x).toList)
/-- THE REST of a method: from pc, with locals ls, stack st and memory mem, it returns, and Q holds -/
def zG (d : Nat) (M : zMt) (pc : Nat) (ls st : List zV) (mem : zMem) (Q : Int → zMem → Prop) : Prop :=
  ∀ (p : Program) (l : Launch) (e : Env) (R : Room) (s : State) (m : MethodId) (args : Array Value) (below : List Frame) (meth : Method) (c : Code) (H : Heap) (locs : List Loc) (cells slots : Nat) (Qf : State → Prop) (E : zEnv) (lj : Array Slot),
    zCx d M E p R s m args meth c → cells ≤ R.cells → slots ≤ R.slots → zHp E mem H → va_S (zA E) s.heap H locs → zLo E (zKl (zMk M)) ls lj → (∀ v ∈ ls, zok v) → (∀ v ∈ st, zok v) → zRt M E Q p l e R s m args below meth c cells slots Qf →
    W p l e R s m args below meth c H locs cells slots Qf (F0 m pc lj (st.map (zv E)))
def zcmp : ClassFile.Cond → Int → Int → Prop
  | .eq, x, y => x = y
  | .ne, x, y => x ≠ y
  | .lt, x, y => x < y
  | .ge, x, y => y ≤ x
  | .gt, x, y => y < x
  | .le, x, y => x ≤ y
def ztgt (pc : Nat) (off : Int) : Nat := ((pc : Int) + off).toNat
def ztk : Nat → List zV → List zV → Option (List zV × List zV)
  | 0, st, acc => some (acc, st)
  | n + 1, v :: st, acc => ztk n st (v :: acc)
  | _ + 1, [], _ => none
def zpsh (t : Nat) (x : Int) (st : List zV) : List zV := match t with
  | 9 => st
  | t => (t, x) :: st
/-- a switch: the places in their order -/
def zsw (pc : Nat) (x : Int) (k : Nat → Prop) : List Int → Int → Prop
  | [], _ => True
  | o :: r, lo => (x = lo → k (ztgt pc o)) ∧ zsw pc x k r (lo + 1)
/-- the value that is stored in local i: what stood there goes; a long ahead of it must not be cut -/
def zst (ls : List zV) (i : Nat) (v : zV) (k : List zV → Prop) : Prop := match ls[i]? with
  | none => False
  | some _ => match i with
    | 0 => k (ls.set i v)
    | j + 1 => match (ls.getD j (9, 0)).1 with
      | 1 => False
      | _ => k (ls.set i v)
def zld (t : Nat) (ls : List zV) (i : Nat) (k : zV → Prop) : Prop := match ls[i]? with
  | some (s, x) => match Nat.beq s t with
    | true => k (s, x)
    | false => False
  | none => False
def zlda (ls : List zV) (i : Nat) (k : zV → Prop) : Prop := match ls[i]? with
  | some (2, x) => k (2, x)
  | some (3, x) => k (3, x)
  | some (5, x) => k (5, x)
  | _ => False
def zbin (st : List zV) (f : Int → Int → Int) (k : List zV → Prop) : Prop := match st with
  | (0, y) :: (0, x) :: r => k ((0, f x y) :: r)
  | _ => False
def zun (st : List zV) (f : Int → Int) (k : List zV → Prop) : Prop := match st with
  | (0, x) :: r => k ((0, f x) :: r)
  | _ => False
def zlbin (st : List zV) (f : Int → Int → Int) (k : List zV → Prop) : Prop := match st with
  | (1, y) :: (1, x) :: r => k ((1, f x y) :: r)
  | _ => False
def zlsh (st : List zV) (f : Int → Int → Int) (k : List zV → Prop) : Prop := match st with
  | (0, y) :: (1, x) :: r => k ((1, f x y) :: r)
  | _ => False
def zsm : List zV → Nat
  | [] => 0
  | (t, _) :: r => zcat t + zsm r
/-- the stack that waits below a call is short -/
def zrm (r : List zV) (P : Prop) : Prop := match Nat.ble (zsm r) 8 with
  | true => P
  | false => False
/-- ONE INSTRUCTION, goal first -/
def zone (d : Nat) (M : zMt) (Q : Int → zMem → Prop) (i : Instr) (pc : Nat) (ls st : List zV) (mem : zMem) (k : Nat → List zV → List zV → zMem → Prop) : Prop :=
  match i with
  | .iconst n => k (pc + 1) ls ((0, n) :: st) mem
  | .bipush n => k (pc + 2) ls ((0, n) :: st) mem
  | .sipush n => k (pc + 3) ls ((0, n) :: st) mem
  | .lconst n => k (pc + 1) ls ((1, Int.ofNat n.val) :: st) mem
  | .iload_n n => zld 0 ls n.val (fun v => k (pc + 1) ls (v :: st) mem)
  | .iload n => zld 0 ls n (fun v => k (pc + 2) ls (v :: st) mem)
  | .lload_n n => zld 1 ls n.val (fun v => k (pc + 1) ls (v :: st) mem)
  | .lload n => zld 1 ls n (fun v => k (pc + 2) ls (v :: st) mem)
  | .aload_n n => zlda ls n.val (fun v => k (pc + 1) ls (v :: st) mem)
  | .aload n => zlda ls n (fun v => k (pc + 2) ls (v :: st) mem)
  | .istore_n n => match st with
    | (0, x) :: r => ∀ z : Int, z = x → zst ls n.val (0, z) (fun l => k (pc + 1) l r mem)
    | _ => False
  | .istore n => match st with
    | (0, x) :: r => ∀ z : Int, z = x → zst ls n (0, z) (fun l => k (pc + 2) l r mem)
    | _ => False
  | .astore_n n => match st with
    | (2, x) :: r => zst ls n.val (2, x) (fun l => k (pc + 1) l r mem)
    | _ => False
  | .astore n => match st with
    | (2, x) :: r => zst ls n (2, x) (fun l => k (pc + 2) l r mem)
    | _ => False
  | .lstore_n n => match st with
    | (1, x) :: r => ∀ z : Int, z = x → zst ls n.val (1, z) (fun l => match l[n.val + 1]? with
      | none => False
      | some _ => k (pc + 1) (l.set (n.val + 1) (9, 0)) r mem)
    | _ => False
  | .lstore n => match st with
    | (1, x) :: r => ∀ z : Int, z = x → zst ls n (1, z) (fun l => match l[n + 1]? with
      | none => False
      | some _ => k (pc + 2) (l.set (n + 1) (9, 0)) r mem)
    | _ => False
  | .iinc n c => zld 0 ls n (fun v => ∀ z : Int, z = zadd v.2 c → zst ls n (0, z) (fun l => k (pc + 3) l st mem))
  | .iadd => zbin st zadd (fun t => k (pc + 1) ls t mem)
  | .isub => zbin st zsub (fun t => k (pc + 1) ls t mem)
  | .imul => zbin st zmul (fun t => k (pc + 1) ls t mem)
  | .iand => zbin st zand (fun t => k (pc + 1) ls t mem)
  | .ior => zbin st zor (fun t => k (pc + 1) ls t mem)
  | .ixor => zbin st zxor (fun t => k (pc + 1) ls t mem)
  | .ishl => zbin st zshl (fun t => k (pc + 1) ls t mem)
  | .ishr => zbin st zshr (fun t => k (pc + 1) ls t mem)
  | .iushr => zbin st zushr (fun t => k (pc + 1) ls t mem)
  | .idiv => match st with
    | (0, y) :: (0, x) :: r => y ≠ 0 ∧ k (pc + 1) ls ((0, zdiv x y) :: r) mem
    | _ => False
  | .irem => match st with
    | (0, y) :: (0, x) :: r => y ≠ 0 ∧ k (pc + 1) ls ((0, zrem x y) :: r) mem
    | _ => False
  | .ineg => zun st zneg (fun t => k (pc + 1) ls t mem)
  | .i2b => zun st zi2b (fun t => k (pc + 1) ls t mem)
  | .i2s => zun st zi2s (fun t => k (pc + 1) ls t mem)
  | .i2c => zun st zi2c (fun t => k (pc + 1) ls t mem)
  | .i2l => match st with
    | (0, x) :: r => k (pc + 1) ls ((1, x) :: r) mem
    | _ => False
  | .l2i => match st with
    | (1, x) :: r => k (pc + 1) ls ((0, zl2i x) :: r) mem
    | _ => False
  | .ladd => zlbin st zladd (fun t => k (pc + 1) ls t mem)
  | .lmul => zlbin st zlmul (fun t => k (pc + 1) ls t mem)
  | .land => zlbin st zland (fun t => k (pc + 1) ls t mem)
  | .lor => zlbin st zlor (fun t => k (pc + 1) ls t mem)
  | .lshl => zlsh st zlshl (fun t => k (pc + 1) ls t mem)
  | .lshr => zlsh st zlshr (fun t => k (pc + 1) ls t mem)
  | .lushr => zlsh st zlushr (fun t => k (pc + 1) ls t mem)
  | .lcmp => match st with
    | (1, y) :: (1, x) :: r => k (pc + 1) ls ((0, zlcmp x y) :: r) mem
    | _ => False
  | .dup => match st with
    | (0, x) :: r => k (pc + 1) ls ((0, x) :: (0, x) :: r) mem
    | (2, x) :: r => k (pc + 1) ls ((2, x) :: (2, x) :: r) mem
    | _ => False
  | .dup2 => match st with
    | (0, x) :: (2, y) :: r => k (pc + 1) ls ((0, x) :: (2, y) :: (0, x) :: (2, y) :: r) mem
    | _ => False
  | .pop => match st with
    | (0, _) :: r => k (pc + 1) ls r mem
    | (2, _) :: r => k (pc + 1) ls r mem
    | _ => False
  | .goto off => k (ztgt pc off) ls st mem
  | .ifCond c off => match st with
    | (0, x) :: r => (zcmp c x 0 → k (ztgt pc off) ls r mem) ∧ (¬ zcmp c x 0 → k (pc + 3) ls r mem)
    | _ => False
  | .if_icmp c off => match st with
    | (0, y) :: (0, x) :: r => (zcmp c x y → k (ztgt pc off) ls r mem) ∧ (¬ zcmp c x y → k (pc + 3) ls r mem)
    | _ => False
  | .tableswitch df lo hi offs => match st with
    | (0, x) :: r => zsw pc x (fun t => k t ls r mem) offs.toList lo ∧ (x < lo ∨ hi < x → k (ztgt pc df) ls r mem)
    | _ => False
  | .getfield idx => match st with
    | (2, h) :: r => match zat (zMf M) idx with
      | some (ci, sl, _) => zkd h.toNat = ci ∧ (match zfk ci sl with
        | 2 => k (pc + 3) ls ((2, Int.ofNat (zrt h.toNat sl)) :: r) mem
        | _ => k (pc + 3) ls ((0, mem h.toNat sl) :: r) mem)
      | none => False
    | _ => False
  | .putfield idx => match st with
    | (0, x) :: (2, h) :: r => match zat (zMf M) idx with
      | some (ci, sl, _) => zkd h.toNat = ci ∧ (match zfk ci sl with
        | 0 => ∀ mem' : zMem, mem' = zup mem h.toNat sl x → k (pc + 3) ls r mem'
        | 1 => (x = 0 ∨ x = 1) ∧ ∀ mem' : zMem, mem' = zup mem h.toNat sl x → k (pc + 3) ls r mem'
        | _ => False)
      | none => False
    | _ => False
  | .iaload => match st with
    | (0, i) :: (2, a) :: r => (zkd a.toNat = 100 ∧ 0 ≤ i ∧ i < zln a.toNat) ∧ k (pc + 1) ls ((0, mem a.toNat i.toNat) :: r) mem
    | (0, i) :: (4, _) :: r => (0 ≤ i ∧ i < 5) ∧ k (pc + 1) ls ((0, zHV.getD i.toNat 0) :: r) mem
    | (0, i) :: (5, _) :: r => (0 ≤ i ∧ i + 1 < (zMx M).1) ∧ k (pc + 1) ls ((0, (zMx M).2 i.toNat) :: r) mem
    | _ => False
  | .baload => match st with
    | (0, i) :: (2, a) :: r => ((zkd a.toNat = 101 ∨ zkd a.toNat = 102) ∧ 0 ≤ i ∧ i < zln a.toNat) ∧ k (pc + 1) ls ((0, mem a.toNat i.toNat) :: r) mem
    | _ => False
  | .laload => match st with
    | (0, i) :: (2, a) :: r => (zkd a.toNat = 103 ∧ 0 ≤ i ∧ i < zln a.toNat) ∧ k (pc + 1) ls ((1, mem a.toNat i.toNat) :: r) mem
    | _ => False
  | .aaload => match st with
    | (0, i) :: (2, a) :: r => (110 ≤ zkd a.toNat ∧ zkd a.toNat ≤ 113 ∧ 0 ≤ i ∧ i < zln a.toNat) ∧ k (pc + 1) ls ((2, Int.ofNat (zrt a.toNat i.toNat)) :: r) mem
    | _ => False
  | .iastore => match st with
    | (0, x) :: (0, i) :: (2, a) :: r => (zkd a.toNat = 100 ∧ 0 ≤ i ∧ i < zln a.toNat) ∧ ∀ mem' : zMem, mem' = zup mem a.toNat i.toNat x → k (pc + 1) ls r mem'
    | _ => False
  | .bastore => match st with
    | (0, x) :: (0, i) :: (2, a) :: r => ((zkd a.toNat = 101 ∧ -128 ≤ x ∧ x < 128 ∨ zkd a.toNat = 102 ∧ (x = 0 ∨ x = 1)) ∧ 0 ≤ i ∧ i < zln a.toNat) ∧ ∀ mem' : zMem, mem' = zup mem a.toNat i.toNat x → k (pc + 1) ls r mem'
    | _ => False
  | .lastore => match st with
    | (1, x) :: (0, i) :: (2, a) :: r => (zkd a.toNat = 103 ∧ 0 ≤ i ∧ i < zln a.toNat) ∧ ∀ mem' : zMem, mem' = zup mem a.toNat i.toNat x → k (pc + 1) ls r mem'
    | _ => False
  | .arraylength => match st with
    | (2, a) :: r => (100 ≤ zkd a.toNat ∧ zkd a.toNat ≤ 103) ∧ k (pc + 1) ls ((0, (zln a.toNat : Int)) :: r) mem
    | (5, _) :: r => (zMx M).1 ≠ 0 ∧ k (pc + 1) ls ((0, ((zMx M).1 : Int) - 1) :: r) mem
    | _ => False
  | .ldc_w idx => match zat (zMn M) idx with
    | some (0, v, _) => k (pc + 3) ls ((0, v) :: st) mem
    | _ => False
  | .ldc2_w idx => match zat (zMn M) idx with
    | some (1, v, _) => k (pc + 3) ls ((1, v) :: st) mem
    | _ => False
  | .ldc idx => match zat (zMn M) idx with
    | some (3, v, _) => k (pc + 2) ls ((3, v) :: st) mem
    | _ => False
  | .getstatic idx => match zat (zMn M) idx with
    | some (4, _, _) => k (pc + 3) ls ((4, 0) :: st) mem
    | _ => False
  | .invokevirtual idx => match zat (zMm M) idx with
    | some (K, kd, n, _) => match ztk (n + 1) st [] with
      | some ((2, h) :: as, r) => match Nat.blt kd 100 with
        | true => zkd h.toNat = kd ∧ zrm r (zCk d K ((2, h) :: as) mem (fun x mem' => k (pc + 3) ls (zpsh (zrtag (zKr K)) x r) mem'))
        | false => False
      | some ((3, h) :: as, r) => (kd = 102 ∧ 0 ≤ h ∧ h < 8) ∧ zrm r (zCk d K ((3, h) :: as) mem (fun x mem' => k (pc + 3) ls (zpsh (zrtag (zKr K)) x r) mem'))
      | _ => False
    | none => False
  | .invokestatic idx => match zat (zMm M) idx with
    | some (K, 100, n, _) => match ztk n st [] with
      | some (as, r) => zrm r (zCk d K as mem (fun x mem' => k (pc + 3) ls (zpsh (zrtag (zKr K)) x r) mem'))
      | none => False
    | some (_, 101, _, _) => match st with
      | (0, n) :: (0, dp) :: (2, t) :: (0, sp) :: (2, a) :: r => (zkd a.toNat = 100 ∧ zkd t.toNat = 100 ∧ 0 ≤ sp ∧ 0 ≤ dp ∧ 0 ≤ n ∧ sp + n ≤ zln a.toNat ∧ dp + n ≤ zln t.toNat) ∧ zrm r (d ≠ 0 ∧ ∀ mem' : zMem, mem' = zcp mem a.toNat sp.toNat t.toNat dp.toNat n.toNat → k (pc + 3) ls r mem')
      | _ => False
    | _ => False
  | .ireturn => match st with
    | [(0, x)] => match zKr (zMk M) with
      | some .int => Q x mem
      | some .boolean => (x = 0 ∨ x = 1) ∧ Q x mem
      | _ => False
    | _ => False
  | .lreturn => match st with
    | [(1, x)] => match zKr (zMk M) with
      | some .long => Q x mem
      | _ => False
    | _ => False
  | .return_ => match st with
    | [] => match zKr (zMk M) with
      | none => Q 0 mem
      | _ => False
    | _ => False
  | _ => False
/-- a piece of code, up to a cut -/
def zseg (d : Nat) (M : zMt) (Q : Int → zMem → Prop) (cuts : List Nat) : Nat → Nat → List zV → List zV → zMem → Prop
  | 0, pc, ls, st, mem => zG d M pc ls st mem Q
  | f + 1, pc, ls, st, mem => match cuts.elem pc with
    | true => zG d M pc ls st mem Q
    | false => match zat (zMc M) pc with
      | some (i, _) => zone d M Q i pc ls st mem (zseg d M Q cuts f)
      | none => False
/-- from a cut on to the next ones -/
def zent (d : Nat) (M : zMt) (Q : Int → zMem → Prop) (cuts : List Nat) (f pc : Nat) (ls st : List zV) (mem : zMem) : Prop := match zat (zMc M) pc with
  | some (i, _) => zone d M Q i pc ls st mem (zseg d M Q cuts f)
  | none => False
end
