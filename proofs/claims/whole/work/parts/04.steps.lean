/-! ===== Ev: from this instruction, with these locals, this stack and this memory, the method comes to its end as Z asks ===== -/
def lw_all : List Cond := lw_tbl.filter goodWord
theorem mem_all {w : Cond} (i : Nat) (h : lw_tbl[i]? = some w) (g : goodWord w = true) : w ∈ lw_all := List.mem_filter.mpr ⟨List.mem_of_getElem? h, g⟩
theorem all_good {w : Cond} (h : w ∈ lw_all) : (w.onTables && w.keeps) = true ∨ ∃ ty, w = .arrayClass ty := good_of_word (List.mem_filter.mp h).2
theorem all_in {ws : List Cond} (h : ∀ w ∈ ws, w ∈ lw_all) : GoodIn lw_all ws := fun w hw => ⟨h w hw, all_good (h w hw)⟩
-- a method: name, code, locals, answer's type, handlers
abbrev YT : Type := MethodName × ByteArray × Nat × Option FieldType × List (Nat × Nat × Nat × Nat)
abbrev yN (Y : YT) : MethodName := Y.1
abbrev yC (Y : YT) : ByteArray := Y.2.1
abbrev yL (Y : YT) : Nat := Y.2.2.1
abbrev yR (Y : YT) : Option FieldType := Y.2.2.2.1
abbrev yH (Y : YT) : List (Nat × Nat × Nat × Nat) := Y.2.2.2.2
abbrev wsY (Y : YT) : List Cond := Cond.code (yN Y) (yC Y) (yL Y) (yR Y) :: lw_all
-- what holds of the start, and of every state behind it
def SA (G : GT) (nm : String) (l : List Int) : Prop := ∃ t : Nat, va_Z "TramLines" nm "[I" (.ref t) (AG G) (s0G G) (s0G G).heap ∧ va_T .int t 3 (fun k => .int (J (l.getD k 0))) (AG G) (s0G G) (s0G G).heap
def GOK (G : GT) : Prop := va_K (dG G) vwCl (tyG G) (s0G G) ∧ (lG G).stackTraces = false ∧ (vx_Zq Bundle.tN "UNASSIGNED_STACK" Bundle.steD (AG G) (s0G G) (s0G G).heap ∧ vx_Zq Bundle.tN "SUPPRESSED_SENTINEL" Bundle.listD (AG G) (s0G G) (s0G G).heap) ∧
  (∀ w ∈ lw_tbl, w.onTables = true → va_Nw w (s0G G)) ∧ (∀ (own : String) (k : Nat) (tx : String), Cond.stringRef own k tx ∈ lw_tbl → ∃ sa, vk_R own k tx sa (s0G G)) ∧
  SA G "LEAST_VALUES" [0, 1, 0] ∧ SA G "GREATEST_VALUES" [20, 30, 10] ∧ SA G "FIRST_VALUES" [2, 4, 1]
def GV (G : GT) (s : State) : Prop := GOK G ∧ (s0G G).WarmedH s.vm ∧ bG G ≤ s.heap.size ∧ ∀ q : Nat, q < bG G → s.heap[q]? = (s0G G).heap[q]?
def Sim (G : GT) (M : Mem) (H : Heap) : Prop := va_P (dG G) vwCl (wd G M) H
theorem GV.K {G : GT} {s : State} (h : GV G s) : va_K (dG G) vwCl (tyG G) s := va_K.moved h.2.1.alike h.1.1
def Cx (G : GT) (Y : YT) (p : Program) (s : State) (m : MethodId) (args : Array Value) (meth : Method) (c : Code) : Prop :=
  p.tables.exec = Jvm.exec ∧ c.code = yC Y ∧ c.maxLocals = yL Y ∧ s.vm.findClass (yN Y).cls = some m.cls ∧ (∀ w ∈ lw_all, w.before args s = true) ∧ meth.sig.returnType = yR Y ∧ meth.locks = false ∧ GV G s ∧ c.exceptionTable.toList = tableOf (yH Y)
abbrev ZT : Type := List Frame → Array Value → State → State → Prop
def Ev (G : GT) (Y : YT) (R : Room) (u : Nat) (Z : ZT) (pc : Nat) (lv : List (Nat × Value)) (st : List Value) (M : Mem) : Prop :=
  ∀ (p : Program) (e : Env) (s : State) (m : MethodId) (args : Array Value) (below : List Frame) (meth : Method) (c : Code) (H : Heap) (locs : List Loc) (ls : Array Slot) (cells slots : Nat),
    Cx G Y p s m args meth c → lv_has ls (yL Y) lv → Sim G M H → va_S (AG G) s.heap H locs → cells ≤ u → slots ≤ 6 * u →
    W p (lG G) e R s m args below meth c H locs cells slots (Z below args s) (F0 m pc ls st)
section Steps9
variable {G : GT} {Y : YT} {R : Room} {u : Nat} {Z : ZT} {pc : Nat} {lv lv' : List (Nat × Value)} {st : List Value} {M : Mem}
theorem ev_sub (ks : List Nat) (h : lv_pick lv ks = lv') (k : Ev G Y R u Z pc lv' st M) : Ev G Y R u Z pc lv st M :=
  fun p e s m args below meth c H locs ls cells slots C hl hs hS h1 h2 => k p e s m args below meth c H locs ls cells slots C (lv_sub hl ks h) hs hS h1 h2
theorem ev_mono {u' : Nat} (hu : u ≤ u') (k : Ev G Y R u' Z pc lv st M) : Ev G Y R u Z pc lv st M :=
  fun p e s m args below meth c H locs ls cells slots C hl hs hS h1 h2 => k p e s m args below meth c H locs ls cells slots C hl hs hS (by omega) (by omega)
theorem ev_iconst {n : Int} (d : decode (yC Y) pc = .ok (.iconst n, 1)) (k : Ev G Y R u Z (pc + 1) lv (iv n :: st) M) : Ev G Y R u Z pc lv (st) M := by
  intro p e s m args below meth c H locs ls cells slots C hl hs hS hc hn
  refine lv_iconst (v := J n) C.1 C.2.1 d rfl ?_
  exact k p e s m args below meth c H locs ls cells slots C hl hs hS hc hn
theorem ev_bipush {n : Int} (d : decode (yC Y) pc = .ok (.bipush n, 2)) (hv : (Int8.ofInt n).toInt32 = J n) (k : Ev G Y R u Z (pc + 2) lv (iv n :: st) M) : Ev G Y R u Z pc lv (st) M := by
  intro p e s m args below meth c H locs ls cells slots C hl hs hS hc hn
  refine lv_bipush (v := J n) C.1 C.2.1 d hv ?_
  exact k p e s m args below meth c H locs ls cells slots C hl hs hS hc hn
theorem ev_sipush {n : Int} (d : decode (yC Y) pc = .ok (.sipush n, 3)) (hv : (Int16.ofInt n).toInt32 = J n) (k : Ev G Y R u Z (pc + 3) lv (iv n :: st) M) : Ev G Y R u Z pc lv (st) M := by
  intro p e s m args below meth c H locs ls cells slots C hl hs hS hc hn
  refine lv_sipush (v := J n) C.1 C.2.1 d hv ?_
  exact k p e s m args below meth c H locs ls cells slots C hl hs hS hc hn
theorem ev_lconst {n : Fin 2} {v : Int64} (d : decode (yC Y) pc = .ok (.lconst n, 1)) (hv : Int64.ofNat (n : Nat) = v) (k : Ev G Y R u Z (pc + 1) lv (.long v :: st) M) : Ev G Y R u Z pc lv (st) M := by
  intro p e s m args below meth c H locs ls cells slots C hl hs hS hc hn
  refine lv_lconst (v := v) C.1 C.2.1 d hv ?_
  exact k p e s m args below meth c H locs ls cells slots C hl hs hS hc hn
theorem ev_dconst0  (d : decode (yC Y) pc = .ok (.dconst 0, 1)) (k : Ev G Y R u Z (pc + 1) lv (.double FP.dconst0 :: st) M) : Ev G Y R u Z pc lv (st) M := by
  intro p e s m args below meth c H locs ls cells slots C hl hs hS hc hn
  refine lv_dconst0 C.1 C.2.1 d ?_
  exact k p e s m args below meth c H locs ls cells slots C hl hs hS hc hn
theorem ev_iload_n {f : Fin 4} {i j : Nat} {x : Int32} (d : decode (yC Y) pc = .ok (.iload_n f, 1)) (hi : (f : Nat) = i) (hv : lv[j]? = some (i, .int x)) (k : Ev G Y R u Z (pc + 1) lv (.int x :: st) M) : Ev G Y R u Z pc lv (st) M := by
  intro p e s m args below meth c H locs ls cells slots C hl hs hS hc hn
  refine lv_iload_n C.1 C.2.1 d hi (lv_at hl j hv) ?_
  exact k p e s m args below meth c H locs ls cells slots C hl hs hS hc hn
theorem ev_iload {i j : Nat} {x : Int32} (d : decode (yC Y) pc = .ok (.iload i, 2)) (hv : lv[j]? = some (i, .int x)) (k : Ev G Y R u Z (pc + 2) lv (.int x :: st) M) : Ev G Y R u Z pc lv (st) M := by
  intro p e s m args below meth c H locs ls cells slots C hl hs hS hc hn
  refine lv_iload C.1 C.2.1 d (lv_at hl j hv) ?_
  exact k p e s m args below meth c H locs ls cells slots C hl hs hS hc hn
theorem ev_aload_n {f : Fin 4} {i j : Nat} {x : Nat} (d : decode (yC Y) pc = .ok (.aload_n f, 1)) (hi : (f : Nat) = i) (hv : lv[j]? = some (i, .ref x)) (k : Ev G Y R u Z (pc + 1) lv (.ref x :: st) M) : Ev G Y R u Z pc lv (st) M := by
  intro p e s m args below meth c H locs ls cells slots C hl hs hS hc hn
  refine lv_aload_n C.1 C.2.1 d hi (lv_at hl j hv) ?_
  exact k p e s m args below meth c H locs ls cells slots C hl hs hS hc hn
theorem ev_aload {i j : Nat} {x : Nat} (d : decode (yC Y) pc = .ok (.aload i, 2)) (hv : lv[j]? = some (i, .ref x)) (k : Ev G Y R u Z (pc + 2) lv (.ref x :: st) M) : Ev G Y R u Z pc lv (st) M := by
  intro p e s m args below meth c H locs ls cells slots C hl hs hS hc hn
  refine lv_aload C.1 C.2.1 d (lv_at hl j hv) ?_
  exact k p e s m args below meth c H locs ls cells slots C hl hs hS hc hn
theorem ev_dload_n {f : Fin 4} {i j : Nat} {x : UInt64} (d : decode (yC Y) pc = .ok (.dload_n f, 1)) (hi : (f : Nat) = i) (hv : lv[j]? = some (i, .double x)) (k : Ev G Y R u Z (pc + 1) lv (.double x :: st) M) : Ev G Y R u Z pc lv (st) M := by
  intro p e s m args below meth c H locs ls cells slots C hl hs hS hc hn
  refine lv_dload_n C.1 C.2.1 d hi (lv_at hl j hv) ?_
  exact k p e s m args below meth c H locs ls cells slots C hl hs hS hc hn
theorem ev_dload {i j : Nat} {x : UInt64} (d : decode (yC Y) pc = .ok (.dload i, 2)) (hv : lv[j]? = some (i, .double x)) (k : Ev G Y R u Z (pc + 2) lv (.double x :: st) M) : Ev G Y R u Z pc lv (st) M := by
  intro p e s m args below meth c H locs ls cells slots C hl hs hS hc hn
  refine lv_dload C.1 C.2.1 d (lv_at hl j hv) ?_
  exact k p e s m args below meth c H locs ls cells slots C hl hs hS hc hn
theorem ev_istore_n {f : Fin 4} {i : Nat} {x : Int32} (d : decode (yC Y) pc = .ok (.istore_n f, 1)) (hi : (f : Nat) = i) (hn : i < yL Y) (hq : (i, Value.int x) :: lv.filter (fun q => !(q.1 == i) && !(q.1 + 1 == i && q.2.category == 2)) = lv') (k : Ev G Y R u Z (pc + 1) lv' st M) : Ev G Y R u Z pc lv (.int x :: st) M := by
  intro p e s m args below meth c H locs ls cells slots C hl hs hS hc hn9
  exact lv_istore_n C.1 C.2.1 d hi hl hn hq (fun ls hl => k p e s m args below meth c H locs ls cells slots C hl hs hS hc hn9)
theorem ev_istore {i : Nat} {x : Int32} (d : decode (yC Y) pc = .ok (.istore i, 2)) (hn : i < yL Y) (hq : (i, Value.int x) :: lv.filter (fun q => !(q.1 == i) && !(q.1 + 1 == i && q.2.category == 2)) = lv') (k : Ev G Y R u Z (pc + 2) lv' st M) : Ev G Y R u Z pc lv (.int x :: st) M := by
  intro p e s m args below meth c H locs ls cells slots C hl hs hS hc hn9
  exact lv_istore C.1 C.2.1 d hl hn hq (fun ls hl => k p e s m args below meth c H locs ls cells slots C hl hs hS hc hn9)
theorem ev_astore_n {f : Fin 4} {i : Nat} {x : Nat} (d : decode (yC Y) pc = .ok (.astore_n f, 1)) (hi : (f : Nat) = i) (hn : i < yL Y) (hq : (i, Value.ref x) :: lv.filter (fun q => !(q.1 == i) && !(q.1 + 1 == i && q.2.category == 2)) = lv') (k : Ev G Y R u Z (pc + 1) lv' st M) : Ev G Y R u Z pc lv (.ref x :: st) M := by
  intro p e s m args below meth c H locs ls cells slots C hl hs hS hc hn9
  exact lv_astore_n C.1 C.2.1 d hi hl hn hq (fun ls hl => k p e s m args below meth c H locs ls cells slots C hl hs hS hc hn9)
theorem ev_astore {i : Nat} {x : Nat} (d : decode (yC Y) pc = .ok (.astore i, 2)) (hn : i < yL Y) (hq : (i, Value.ref x) :: lv.filter (fun q => !(q.1 == i) && !(q.1 + 1 == i && q.2.category == 2)) = lv') (k : Ev G Y R u Z (pc + 2) lv' st M) : Ev G Y R u Z pc lv (.ref x :: st) M := by
  intro p e s m args below meth c H locs ls cells slots C hl hs hS hc hn9
  exact lv_astore C.1 C.2.1 d hl hn hq (fun ls hl => k p e s m args below meth c H locs ls cells slots C hl hs hS hc hn9)
theorem ev_dstore {i : Nat} {x : UInt64} (d : decode (yC Y) pc = .ok (.dstore i, 2)) (hn : i + 1 < yL Y) (hq : (i, Value.double x) :: lv.filter (fun q => !(q.1 == i) && (!(q.1 == i + 1) && !(q.1 + 1 == i && q.2.category == 2))) = lv') (k : Ev G Y R u Z (pc + 2) lv' st M) : Ev G Y R u Z pc lv (.double x :: st) M := by
  intro p e s m args below meth c H locs ls cells slots C hl hs hS hc hn9
  exact lv_dstore C.1 C.2.1 d hl hn hq (fun ls hl => k p e s m args below meth c H locs ls cells slots C hl hs hS hc hn9)
theorem ev_iinc {i j : Nat} {n a : Int} (d : decode (yC Y) pc = .ok (.iinc i n, 3)) (hv : lv[j]? = some (i, iv a)) (hn : i < yL Y) (hq : (i, iv (a + n)) :: lv.filter (fun q => !(q.1 == i) && !(q.1 + 1 == i && q.2.category == 2)) = lv') (k : Ev G Y R u Z (pc + 3) lv' st M) : Ev G Y R u Z pc lv st M := by
  intro p e s m args below meth c H locs ls cells slots C hl hs hS hc hn9
  exact lv_iinc C.1 C.2.1 d hl hv (J_add a n) hn hq (fun ls hl => k p e s m args below meth c H locs ls cells slots C hl hs hS hc hn9)
theorem ev_iadd {a b : Int} (d : decode (yC Y) pc = .ok (.iadd, 1)) (k : Ev G Y R u Z (pc + 1) lv (iv (a + b) :: st) M) : Ev G Y R u Z pc lv (iv b :: iv a :: st) M := by
  intro p e s m args below meth c H locs ls cells slots C hl hs hS hc hn
  refine lv_iadd C.1 C.2.1 d ?_
  rw [J_add]
  exact k p e s m args below meth c H locs ls cells slots C hl hs hS hc hn
theorem ev_isub {a b : Int} (d : decode (yC Y) pc = .ok (.isub, 1)) (k : Ev G Y R u Z (pc + 1) lv (iv (a - b) :: st) M) : Ev G Y R u Z pc lv (iv b :: iv a :: st) M := by
  intro p e s m args below meth c H locs ls cells slots C hl hs hS hc hn
  refine lv_isub C.1 C.2.1 d ?_
  rw [J_sub]
  exact k p e s m args below meth c H locs ls cells slots C hl hs hS hc hn
theorem ev_imul {a b : Int} (d : decode (yC Y) pc = .ok (.imul, 1)) (k : Ev G Y R u Z (pc + 1) lv (iv (a * b) :: st) M) : Ev G Y R u Z pc lv (iv b :: iv a :: st) M := by
  intro p e s m args below meth c H locs ls cells slots C hl hs hS hc hn
  refine lv_imul C.1 C.2.1 d ?_
  rw [J_mul]
  exact k p e s m args below meth c H locs ls cells slots C hl hs hS hc hn
theorem ev_ineg {a : Int} (d : decode (yC Y) pc = .ok (.ineg, 1)) (k : Ev G Y R u Z (pc + 1) lv (iv (-a) :: st) M) : Ev G Y R u Z pc lv (iv a :: st) M := by
  intro p e s m args below meth c H locs ls cells slots C hl hs hS hc hn
  refine lv_ineg C.1 C.2.1 d ?_
  rw [J_neg]
  exact k p e s m args below meth c H locs ls cells slots C hl hs hS hc hn
theorem ev_iandV {x y z : Int32} (d : decode (yC Y) pc = .ok (.iand, 1)) (hz : x &&& y = z) (k : Ev G Y R u Z (pc + 1) lv (.int z :: st) M) : Ev G Y R u Z pc lv (.int y :: .int x :: st) M := by
  intro p e s m args below meth c H locs ls cells slots C hl hs hS hc hn
  refine lv_iand C.1 C.2.1 d ?_
  rw [hz]
  exact k p e s m args below meth c H locs ls cells slots C hl hs hS hc hn
theorem ev_i2c {x v : Int32} (d : decode (yC Y) pc = .ok (.i2c, 1)) (hv : (x.toUInt32 % 65536).toInt32 = v) (k : Ev G Y R u Z (pc + 1) lv (.int v :: st) M) : Ev G Y R u Z pc lv (.int x :: st) M := by
  intro p e s m args below meth c H locs ls cells slots C hl hs hS hc hn
  refine lv_i2c C.1 C.2.1 d hv ?_
  exact k p e s m args below meth c H locs ls cells slots C hl hs hS hc hn
theorem ev_i2l {x : Int32} (d : decode (yC Y) pc = .ok (.i2l, 1)) (k : Ev G Y R u Z (pc + 1) lv (.long x.toInt64 :: st) M) : Ev G Y R u Z pc lv (.int x :: st) M := by
  intro p e s m args below meth c H locs ls cells slots C hl hs hS hc hn
  refine lv_i2l C.1 C.2.1 d rfl ?_
  exact k p e s m args below meth c H locs ls cells slots C hl hs hS hc hn
theorem ev_lcmp {x y : Int64} (d : decode (yC Y) pc = .ok (.lcmp, 1)) (k : Ev G Y R u Z (pc + 1) lv (.int (lg_cmp x y) :: st) M) : Ev G Y R u Z pc lv (.long y :: .long x :: st) M := by
  intro p e s m args below meth c H locs ls cells slots C hl hs hS hc hn
  refine W.lcmp C.1 C.2.1 d ?_
  exact k p e s m args below meth c H locs ls cells slots C hl hs hS hc hn
theorem ev_i2d {x : Int32} (d : decode (yC Y) pc = .ok (.i2d, 1)) (k : Ev G Y R u Z (pc + 1) lv (.double (FP.i2d x) :: st) M) : Ev G Y R u Z pc lv (.int x :: st) M := by
  intro p e s m args below meth c H locs ls cells slots C hl hs hS hc hn
  refine lv_i2d C.1 C.2.1 d ?_
  exact k p e s m args below meth c H locs ls cells slots C hl hs hS hc hn
theorem ev_ddiv {x y : UInt64} (d : decode (yC Y) pc = .ok (.ddiv, 1)) (hne : vf_n64 (FP.ddiv x y)) (k : Ev G Y R u Z (pc + 1) lv (.double (FP.ddiv x y) :: st) M) : Ev G Y R u Z pc lv (.double y :: .double x :: st) M := by
  intro p e s m args below meth c H locs ls cells slots C hl hs hS hc hn
  refine lv_ddiv C.1 C.2.1 d hne ?_
  exact k p e s m args below meth c H locs ls cells slots C hl hs hS hc hn
theorem ev_dcmp {x y : UInt64} {op : CmpOp} (d : decode (yC Y) pc = .ok (.dcmp op, 1)) (k : Ev G Y R u Z (pc + 1) lv (.int (Op.cmpValue (FP.dcmp x y) op) :: st) M) : Ev G Y R u Z pc lv (.double y :: .double x :: st) M := by
  intro p e s m args below meth c H locs ls cells slots C hl hs hS hc hn
  refine lv_dcmp C.1 C.2.1 d ?_
  exact k p e s m args below meth c H locs ls cells slots C hl hs hS hc hn
theorem ev_dup {v : Value} (d : decode (yC Y) pc = .ok (.dup, 1)) (hv : v.category = 1) (k : Ev G Y R u Z (pc + 1) lv (v :: v :: st) M) : Ev G Y R u Z pc lv (v :: st) M := by
  intro p e s m args below meth c H locs ls cells slots C hl hs hS hc hn
  refine lv_dup C.1 C.2.1 d hv ?_
  exact k p e s m args below meth c H locs ls cells slots C hl hs hS hc hn
theorem ev_pop {v : Value} (d : decode (yC Y) pc = .ok (.pop, 1)) (hv : v.category = 1) (k : Ev G Y R u Z (pc + 1) lv (st) M) : Ev G Y R u Z pc lv (v :: st) M := by
  intro p e s m args below meth c H locs ls cells slots C hl hs hS hc hn
  refine lv_pop C.1 C.2.1 d hv ?_
  exact k p e s m args below meth c H locs ls cells slots C hl hs hS hc hn
theorem ev_dup2 {v w : Value} (d : decode (yC Y) pc = .ok (.dup2, 1)) (hv : v.category = 1) (hw : w.category = 1) (k : Ev G Y R u Z (pc + 1) lv (v :: w :: v :: w :: st) M) : Ev G Y R u Z pc lv (v :: w :: st) M := by
  intro p e s m args below meth c H locs ls cells slots C hl hs hS hc hn
  refine lv_dup2_11 C.1 C.2.1 d hv hw ?_
  exact k p e s m args below meth c H locs ls cells slots C hl hs hS hc hn
theorem ev_goto {o : Int} (tgt : Nat) (d : decode (yC Y) pc = .ok (.goto o, 3)) (ht : (pc : Int) + o = (tgt : Int)) (k : Ev G Y R u Z tgt lv st M) : Ev G Y R u Z pc lv st M := by
  intro p e s m args below meth c H locs ls cells slots C hl hs hS hc hn
  exact lv_goto C.1 C.2.1 d ht (k p e s m args below meth c H locs ls cells slots C hl hs hS hc hn)
theorem ev_icmp_eq {a b o : Int} (tgt : Nat) (d : decode (yC Y) pc = .ok (.if_icmp .eq o, 3)) (ht : (pc : Int) + o = (tgt : Int)) (ha : I32 a) (hb : I32 b) (kt : a = b → Ev G Y R u Z tgt lv st M) (kf : ¬ a = b → Ev G Y R u Z (pc + 3) lv st M) : Ev G Y R u Z pc lv (iv b :: iv a :: st) M := by
  intro p e s m args below meth c H locs ls cells slots C hl hs hS hc hn
  have e1 := J_eq ha hb
  have e2 := J_lt ha hb
  have e3 := J_lt hb ha
  have e4 := J_le ha hb
  have e5 := J_le hb ha
  refine lv_icmp_eq C.1 C.2.1 d ht (fun h => ?_) (fun h => ?_)
  · exact kt (by first | exact e1.mp h | exact fun q => h (e1.mpr q) | exact e2.mp h | exact fun q => h (e2.mpr q) | exact e3.mp h | exact fun q => h (e3.mpr q) | (have := e4.mp h; omega) | (have := e5.mp h; omega)) p e s m args below meth c H locs ls cells slots C hl hs hS hc hn
  · exact kf (by first | exact e1.mp h | exact fun q => h (e1.mpr q) | exact e2.mp h | exact fun q => h (e2.mpr q) | exact e3.mp h | exact fun q => h (e3.mpr q) | exact Classical.byContradiction fun q => h (e1.mpr (Classical.byContradiction fun z => q z)) | (have := mt e4.mpr h; omega) | (have := mt e5.mpr h; omega) | exact Classical.byContradiction fun q => h fun z => q (e1.mp z)) p e s m args below meth c H locs ls cells slots C hl hs hS hc hn
theorem ev_icmp_ne {a b o : Int} (tgt : Nat) (d : decode (yC Y) pc = .ok (.if_icmp .ne o, 3)) (ht : (pc : Int) + o = (tgt : Int)) (ha : I32 a) (hb : I32 b) (kt : ¬ a = b → Ev G Y R u Z tgt lv st M) (kf : a = b → Ev G Y R u Z (pc + 3) lv st M) : Ev G Y R u Z pc lv (iv b :: iv a :: st) M := by
  intro p e s m args below meth c H locs ls cells slots C hl hs hS hc hn
  have e1 := J_eq ha hb
  have e2 := J_lt ha hb
  have e3 := J_lt hb ha
  have e4 := J_le ha hb
  have e5 := J_le hb ha
  refine lv_icmp_ne C.1 C.2.1 d ht (fun h => ?_) (fun h => ?_)
  · exact kt (by first | exact e1.mp h | exact fun q => h (e1.mpr q) | exact e2.mp h | exact fun q => h (e2.mpr q) | exact e3.mp h | exact fun q => h (e3.mpr q) | (have := e4.mp h; omega) | (have := e5.mp h; omega)) p e s m args below meth c H locs ls cells slots C hl hs hS hc hn
  · exact kf (by first | exact e1.mp h | exact fun q => h (e1.mpr q) | exact e2.mp h | exact fun q => h (e2.mpr q) | exact e3.mp h | exact fun q => h (e3.mpr q) | exact Classical.byContradiction fun q => h (e1.mpr (Classical.byContradiction fun z => q z)) | (have := mt e4.mpr h; omega) | (have := mt e5.mpr h; omega) | exact Classical.byContradiction fun q => h fun z => q (e1.mp z)) p e s m args below meth c H locs ls cells slots C hl hs hS hc hn
theorem ev_icmp_lt {a b o : Int} (tgt : Nat) (d : decode (yC Y) pc = .ok (.if_icmp .lt o, 3)) (ht : (pc : Int) + o = (tgt : Int)) (ha : I32 a) (hb : I32 b) (kt : a < b → Ev G Y R u Z tgt lv st M) (kf : ¬ a < b → Ev G Y R u Z (pc + 3) lv st M) : Ev G Y R u Z pc lv (iv b :: iv a :: st) M := by
  intro p e s m args below meth c H locs ls cells slots C hl hs hS hc hn
  have e1 := J_eq ha hb
  have e2 := J_lt ha hb
  have e3 := J_lt hb ha
  have e4 := J_le ha hb
  have e5 := J_le hb ha
  refine lv_icmp_lt C.1 C.2.1 d ht (fun h => ?_) (fun h => ?_)
  · exact kt (by first | exact e1.mp h | exact fun q => h (e1.mpr q) | exact e2.mp h | exact fun q => h (e2.mpr q) | exact e3.mp h | exact fun q => h (e3.mpr q) | (have := e4.mp h; omega) | (have := e5.mp h; omega)) p e s m args below meth c H locs ls cells slots C hl hs hS hc hn
  · exact kf (by first | exact e1.mp h | exact fun q => h (e1.mpr q) | exact e2.mp h | exact fun q => h (e2.mpr q) | exact e3.mp h | exact fun q => h (e3.mpr q) | exact Classical.byContradiction fun q => h (e1.mpr (Classical.byContradiction fun z => q z)) | (have := mt e4.mpr h; omega) | (have := mt e5.mpr h; omega) | exact Classical.byContradiction fun q => h fun z => q (e1.mp z)) p e s m args below meth c H locs ls cells slots C hl hs hS hc hn
theorem ev_icmp_ge {a b o : Int} (tgt : Nat) (d : decode (yC Y) pc = .ok (.if_icmp .ge o, 3)) (ht : (pc : Int) + o = (tgt : Int)) (ha : I32 a) (hb : I32 b) (kt : ¬ a < b → Ev G Y R u Z tgt lv st M) (kf : a < b → Ev G Y R u Z (pc + 3) lv st M) : Ev G Y R u Z pc lv (iv b :: iv a :: st) M := by
  intro p e s m args below meth c H locs ls cells slots C hl hs hS hc hn
  have e1 := J_eq ha hb
  have e2 := J_lt ha hb
  have e3 := J_lt hb ha
  have e4 := J_le ha hb
  have e5 := J_le hb ha
  refine lv_icmp_ge C.1 C.2.1 d ht (fun h => ?_) (fun h => ?_)
  · exact kt (by first | exact e1.mp h | exact fun q => h (e1.mpr q) | exact e2.mp h | exact fun q => h (e2.mpr q) | exact e3.mp h | exact fun q => h (e3.mpr q) | (have := e4.mp h; omega) | (have := e5.mp h; omega)) p e s m args below meth c H locs ls cells slots C hl hs hS hc hn
  · exact kf (by first | exact e1.mp h | exact fun q => h (e1.mpr q) | exact e2.mp h | exact fun q => h (e2.mpr q) | exact e3.mp h | exact fun q => h (e3.mpr q) | exact Classical.byContradiction fun q => h (e1.mpr (Classical.byContradiction fun z => q z)) | (have := mt e4.mpr h; omega) | (have := mt e5.mpr h; omega) | exact Classical.byContradiction fun q => h fun z => q (e1.mp z)) p e s m args below meth c H locs ls cells slots C hl hs hS hc hn
theorem ev_icmp_gt {a b o : Int} (tgt : Nat) (d : decode (yC Y) pc = .ok (.if_icmp .gt o, 3)) (ht : (pc : Int) + o = (tgt : Int)) (ha : I32 a) (hb : I32 b) (kt : b < a → Ev G Y R u Z tgt lv st M) (kf : ¬ b < a → Ev G Y R u Z (pc + 3) lv st M) : Ev G Y R u Z pc lv (iv b :: iv a :: st) M := by
  intro p e s m args below meth c H locs ls cells slots C hl hs hS hc hn
  have e1 := J_eq ha hb
  have e2 := J_lt ha hb
  have e3 := J_lt hb ha
  have e4 := J_le ha hb
  have e5 := J_le hb ha
  refine lv_icmp_gt C.1 C.2.1 d ht (fun h => ?_) (fun h => ?_)
  · exact kt (by first | exact e1.mp h | exact fun q => h (e1.mpr q) | exact e2.mp h | exact fun q => h (e2.mpr q) | exact e3.mp h | exact fun q => h (e3.mpr q) | (have := e4.mp h; omega) | (have := e5.mp h; omega)) p e s m args below meth c H locs ls cells slots C hl hs hS hc hn
  · exact kf (by first | exact e1.mp h | exact fun q => h (e1.mpr q) | exact e2.mp h | exact fun q => h (e2.mpr q) | exact e3.mp h | exact fun q => h (e3.mpr q) | exact Classical.byContradiction fun q => h (e1.mpr (Classical.byContradiction fun z => q z)) | (have := mt e4.mpr h; omega) | (have := mt e5.mpr h; omega) | exact Classical.byContradiction fun q => h fun z => q (e1.mp z)) p e s m args below meth c H locs ls cells slots C hl hs hS hc hn
theorem ev_icmp_le {a b o : Int} (tgt : Nat) (d : decode (yC Y) pc = .ok (.if_icmp .le o, 3)) (ht : (pc : Int) + o = (tgt : Int)) (ha : I32 a) (hb : I32 b) (kt : ¬ b < a → Ev G Y R u Z tgt lv st M) (kf : b < a → Ev G Y R u Z (pc + 3) lv st M) : Ev G Y R u Z pc lv (iv b :: iv a :: st) M := by
  intro p e s m args below meth c H locs ls cells slots C hl hs hS hc hn
  have e1 := J_eq ha hb
  have e2 := J_lt ha hb
  have e3 := J_lt hb ha
  have e4 := J_le ha hb
  have e5 := J_le hb ha
  refine lv_icmp_le C.1 C.2.1 d ht (fun h => ?_) (fun h => ?_)
  · exact kt (by first | exact e1.mp h | exact fun q => h (e1.mpr q) | exact e2.mp h | exact fun q => h (e2.mpr q) | exact e3.mp h | exact fun q => h (e3.mpr q) | (have := e4.mp h; omega) | (have := e5.mp h; omega)) p e s m args below meth c H locs ls cells slots C hl hs hS hc hn
  · exact kf (by first | exact e1.mp h | exact fun q => h (e1.mpr q) | exact e2.mp h | exact fun q => h (e2.mpr q) | exact e3.mp h | exact fun q => h (e3.mpr q) | exact Classical.byContradiction fun q => h (e1.mpr (Classical.byContradiction fun z => q z)) | (have := mt e4.mpr h; omega) | (have := mt e5.mpr h; omega) | exact Classical.byContradiction fun q => h fun z => q (e1.mp z)) p e s m args below meth c H locs ls cells slots C hl hs hS hc hn
theorem ev_if_eq {a o : Int} (tgt : Nat) (d : decode (yC Y) pc = .ok (.ifCond .eq o, 3)) (ht : (pc : Int) + o = (tgt : Int)) (ha : I32 a) (kt : a = 0 → Ev G Y R u Z tgt lv st M) (kf : ¬ a = 0 → Ev G Y R u Z (pc + 3) lv st M) : Ev G Y R u Z pc lv (iv a :: st) M := by
  intro p e s m args below meth c H locs ls cells slots C hl hs hS hc hn
  have hb : I32 0 := I32_0
  have e1 : J a = 0 ↔ a = 0 := J_eq ha hb
  have e2 : J a < 0 ↔ a < 0 := J_lt ha hb
  have e3 : 0 < J a ↔ 0 < a := J_lt hb ha
  have e4 : J a ≤ 0 ↔ a ≤ 0 := J_le ha hb
  have e5 : 0 ≤ J a ↔ 0 ≤ a := J_le hb ha
  refine lv_if_eq C.1 C.2.1 d ht (fun h => ?_) (fun h => ?_)
  · exact kt (by first | exact e1.mp h | exact fun q => h (e1.mpr q) | exact e2.mp h | exact fun q => h (e2.mpr q) | exact e3.mp h | exact fun q => h (e3.mpr q) | (have := e4.mp h; omega) | (have := e5.mp h; omega)) p e s m args below meth c H locs ls cells slots C hl hs hS hc hn
  · exact kf (by first | exact e1.mp h | exact fun q => h (e1.mpr q) | exact e2.mp h | exact fun q => h (e2.mpr q) | exact e3.mp h | exact fun q => h (e3.mpr q) | exact Classical.byContradiction fun q => h (e1.mpr (Classical.byContradiction fun z => q z)) | (have := mt e4.mpr h; omega) | (have := mt e5.mpr h; omega) | exact Classical.byContradiction fun q => h fun z => q (e1.mp z)) p e s m args below meth c H locs ls cells slots C hl hs hS hc hn
theorem ev_if_ne {a o : Int} (tgt : Nat) (d : decode (yC Y) pc = .ok (.ifCond .ne o, 3)) (ht : (pc : Int) + o = (tgt : Int)) (ha : I32 a) (kt : ¬ a = 0 → Ev G Y R u Z tgt lv st M) (kf : a = 0 → Ev G Y R u Z (pc + 3) lv st M) : Ev G Y R u Z pc lv (iv a :: st) M := by
  intro p e s m args below meth c H locs ls cells slots C hl hs hS hc hn
  have hb : I32 0 := I32_0
  have e1 : J a = 0 ↔ a = 0 := J_eq ha hb
  have e2 : J a < 0 ↔ a < 0 := J_lt ha hb
  have e3 : 0 < J a ↔ 0 < a := J_lt hb ha
  have e4 : J a ≤ 0 ↔ a ≤ 0 := J_le ha hb
  have e5 : 0 ≤ J a ↔ 0 ≤ a := J_le hb ha
  refine lv_if_ne C.1 C.2.1 d ht (fun h => ?_) (fun h => ?_)
  · exact kt (by first | exact e1.mp h | exact fun q => h (e1.mpr q) | exact e2.mp h | exact fun q => h (e2.mpr q) | exact e3.mp h | exact fun q => h (e3.mpr q) | (have := e4.mp h; omega) | (have := e5.mp h; omega)) p e s m args below meth c H locs ls cells slots C hl hs hS hc hn
  · exact kf (by first | exact e1.mp h | exact fun q => h (e1.mpr q) | exact e2.mp h | exact fun q => h (e2.mpr q) | exact e3.mp h | exact fun q => h (e3.mpr q) | exact Classical.byContradiction fun q => h (e1.mpr (Classical.byContradiction fun z => q z)) | (have := mt e4.mpr h; omega) | (have := mt e5.mpr h; omega) | exact Classical.byContradiction fun q => h fun z => q (e1.mp z)) p e s m args below meth c H locs ls cells slots C hl hs hS hc hn
theorem ev_if_lt {a o : Int} (tgt : Nat) (d : decode (yC Y) pc = .ok (.ifCond .lt o, 3)) (ht : (pc : Int) + o = (tgt : Int)) (ha : I32 a) (kt : a < 0 → Ev G Y R u Z tgt lv st M) (kf : ¬ a < 0 → Ev G Y R u Z (pc + 3) lv st M) : Ev G Y R u Z pc lv (iv a :: st) M := by
  intro p e s m args below meth c H locs ls cells slots C hl hs hS hc hn
  have hb : I32 0 := I32_0
  have e1 : J a = 0 ↔ a = 0 := J_eq ha hb
  have e2 : J a < 0 ↔ a < 0 := J_lt ha hb
  have e3 : 0 < J a ↔ 0 < a := J_lt hb ha
  have e4 : J a ≤ 0 ↔ a ≤ 0 := J_le ha hb
  have e5 : 0 ≤ J a ↔ 0 ≤ a := J_le hb ha
  refine lv_if_lt C.1 C.2.1 d ht (fun h => ?_) (fun h => ?_)
  · exact kt (by first | exact e1.mp h | exact fun q => h (e1.mpr q) | exact e2.mp h | exact fun q => h (e2.mpr q) | exact e3.mp h | exact fun q => h (e3.mpr q) | (have := e4.mp h; omega) | (have := e5.mp h; omega)) p e s m args below meth c H locs ls cells slots C hl hs hS hc hn
  · exact kf (by first | exact e1.mp h | exact fun q => h (e1.mpr q) | exact e2.mp h | exact fun q => h (e2.mpr q) | exact e3.mp h | exact fun q => h (e3.mpr q) | exact Classical.byContradiction fun q => h (e1.mpr (Classical.byContradiction fun z => q z)) | (have := mt e4.mpr h; omega) | (have := mt e5.mpr h; omega) | exact Classical.byContradiction fun q => h fun z => q (e1.mp z)) p e s m args below meth c H locs ls cells slots C hl hs hS hc hn
theorem ev_if_ge {a o : Int} (tgt : Nat) (d : decode (yC Y) pc = .ok (.ifCond .ge o, 3)) (ht : (pc : Int) + o = (tgt : Int)) (ha : I32 a) (kt : ¬ a < 0 → Ev G Y R u Z tgt lv st M) (kf : a < 0 → Ev G Y R u Z (pc + 3) lv st M) : Ev G Y R u Z pc lv (iv a :: st) M := by
  intro p e s m args below meth c H locs ls cells slots C hl hs hS hc hn
  have hb : I32 0 := I32_0
  have e1 : J a = 0 ↔ a = 0 := J_eq ha hb
  have e2 : J a < 0 ↔ a < 0 := J_lt ha hb
  have e3 : 0 < J a ↔ 0 < a := J_lt hb ha
  have e4 : J a ≤ 0 ↔ a ≤ 0 := J_le ha hb
  have e5 : 0 ≤ J a ↔ 0 ≤ a := J_le hb ha
  refine lv_if_ge C.1 C.2.1 d ht (fun h => ?_) (fun h => ?_)
  · exact kt (by first | exact e1.mp h | exact fun q => h (e1.mpr q) | exact e2.mp h | exact fun q => h (e2.mpr q) | exact e3.mp h | exact fun q => h (e3.mpr q) | (have := e4.mp h; omega) | (have := e5.mp h; omega)) p e s m args below meth c H locs ls cells slots C hl hs hS hc hn
  · exact kf (by first | exact e1.mp h | exact fun q => h (e1.mpr q) | exact e2.mp h | exact fun q => h (e2.mpr q) | exact e3.mp h | exact fun q => h (e3.mpr q) | exact Classical.byContradiction fun q => h (e1.mpr (Classical.byContradiction fun z => q z)) | (have := mt e4.mpr h; omega) | (have := mt e5.mpr h; omega) | exact Classical.byContradiction fun q => h fun z => q (e1.mp z)) p e s m args below meth c H locs ls cells slots C hl hs hS hc hn
theorem ev_if_gt {a o : Int} (tgt : Nat) (d : decode (yC Y) pc = .ok (.ifCond .gt o, 3)) (ht : (pc : Int) + o = (tgt : Int)) (ha : I32 a) (kt : 0 < a → Ev G Y R u Z tgt lv st M) (kf : ¬ 0 < a → Ev G Y R u Z (pc + 3) lv st M) : Ev G Y R u Z pc lv (iv a :: st) M := by
  intro p e s m args below meth c H locs ls cells slots C hl hs hS hc hn
  have hb : I32 0 := I32_0
  have e1 : J a = 0 ↔ a = 0 := J_eq ha hb
  have e2 : J a < 0 ↔ a < 0 := J_lt ha hb
  have e3 : 0 < J a ↔ 0 < a := J_lt hb ha
  have e4 : J a ≤ 0 ↔ a ≤ 0 := J_le ha hb
  have e5 : 0 ≤ J a ↔ 0 ≤ a := J_le hb ha
  refine lv_if_gt C.1 C.2.1 d ht (fun h => ?_) (fun h => ?_)
  · exact kt (by first | exact e1.mp h | exact fun q => h (e1.mpr q) | exact e2.mp h | exact fun q => h (e2.mpr q) | exact e3.mp h | exact fun q => h (e3.mpr q) | (have := e4.mp h; omega) | (have := e5.mp h; omega)) p e s m args below meth c H locs ls cells slots C hl hs hS hc hn
  · exact kf (by first | exact e1.mp h | exact fun q => h (e1.mpr q) | exact e2.mp h | exact fun q => h (e2.mpr q) | exact e3.mp h | exact fun q => h (e3.mpr q) | exact Classical.byContradiction fun q => h (e1.mpr (Classical.byContradiction fun z => q z)) | (have := mt e4.mpr h; omega) | (have := mt e5.mpr h; omega) | exact Classical.byContradiction fun q => h fun z => q (e1.mp z)) p e s m args below meth c H locs ls cells slots C hl hs hS hc hn
theorem ev_if_le {a o : Int} (tgt : Nat) (d : decode (yC Y) pc = .ok (.ifCond .le o, 3)) (ht : (pc : Int) + o = (tgt : Int)) (ha : I32 a) (kt : ¬ 0 < a → Ev G Y R u Z tgt lv st M) (kf : 0 < a → Ev G Y R u Z (pc + 3) lv st M) : Ev G Y R u Z pc lv (iv a :: st) M := by
  intro p e s m args below meth c H locs ls cells slots C hl hs hS hc hn
  have hb : I32 0 := I32_0
  have e1 : J a = 0 ↔ a = 0 := J_eq ha hb
  have e2 : J a < 0 ↔ a < 0 := J_lt ha hb
  have e3 : 0 < J a ↔ 0 < a := J_lt hb ha
  have e4 : J a ≤ 0 ↔ a ≤ 0 := J_le ha hb
  have e5 : 0 ≤ J a ↔ 0 ≤ a := J_le hb ha
  refine lv_if_le C.1 C.2.1 d ht (fun h => ?_) (fun h => ?_)
  · exact kt (by first | exact e1.mp h | exact fun q => h (e1.mpr q) | exact e2.mp h | exact fun q => h (e2.mpr q) | exact e3.mp h | exact fun q => h (e3.mpr q) | (have := e4.mp h; omega) | (have := e5.mp h; omega)) p e s m args below meth c H locs ls cells slots C hl hs hS hc hn
  · exact kf (by first | exact e1.mp h | exact fun q => h (e1.mpr q) | exact e2.mp h | exact fun q => h (e2.mpr q) | exact e3.mp h | exact fun q => h (e3.mpr q) | exact Classical.byContradiction fun q => h (e1.mpr (Classical.byContradiction fun z => q z)) | (have := mt e4.mpr h; omega) | (have := mt e5.mpr h; omega) | exact Classical.byContradiction fun q => h fun z => q (e1.mp z)) p e s m args below meth c H locs ls cells slots C hl hs hS hc hn
/-- a switch: every place of its table, or behind it -/
theorem ev_tsw {dflt lo hi a : Int} {offs : Array Int} {len : Nat} (d : decode (yC Y) pc = .ok (.tableswitch dflt lo hi offs, len)) (ha : I32 a) (hsz : lo + offs.size = hi + 1)
    (kin : ∀ (j : Nat) (o : Int), offs[j]? = some o → a = lo + j → ∀ tgt : Nat, (pc : Int) + o = (tgt : Int) → 0 ≤ (pc : Int) + o → Ev G Y R u Z tgt lv st M) (hpos : ∀ (j : Nat) (o : Int), offs[j]? = some o → 0 ≤ (pc : Int) + o)
    (kout : a < lo ∨ hi < a → ∀ tgt : Nat, (pc : Int) + dflt = (tgt : Int) → Ev G Y R u Z tgt lv st M) (hd : 0 ≤ (pc : Int) + dflt) : Ev G Y R u Z pc lv (iv a :: st) M := by
  intro p e s m args below meth c H locs ls cells slots C hl hs hS hc hn
  by_cases h : a < lo ∨ hi < a
  · exact lv_tableOut C.1 C.2.1 d (tgt := ((pc : Int) + dflt).toNat) (by rw [J_toInt ha]; exact h) (by omega) (kout h _ (by omega) p e s m args below meth c H locs ls cells slots C hl hs hS hc hn)
  · have h1 : ¬ a < lo := fun q => h (Or.inl q)
    have h2 : ¬ hi < a := fun q => h (Or.inr q)
    have hlt : (a - lo).toNat < offs.size := by omega
    have ho : offs[(a - lo).toNat]? = some offs[(a - lo).toNat] := Array.getElem?_eq_getElem hlt
    have hp := hpos _ _ ho
    refine lv_tableIn C.1 C.2.1 d (tgt := ((pc : Int) + offs[(a - lo).toNat]).toNat) (by rw [J_toInt ha]; exact h1) (by rw [J_toInt ha]; exact h2) (by rw [J_toInt ha]; exact ho) (by omega) (kin _ _ ho (by omega) _ (by omega) hp p e s m args below meth c H locs ls cells slots C hl hs hS hc hn)
-- fields
/-- a field as this class' constant pool has it: read -/
def FR (own : String) (idx ci k : Nat) : Prop := ∃ (C : String) (T : u_T) (N : Nat), vwCl[ci]? = some (C, T, N) ∧ k < N ∧ (∀ w ∈ u_ws C T N, w ∈ lw_all) ∧ Cond.fieldLink own idx (T k).1 (T k).2.1 (T k).2.2.1 ∈ lw_all
/-- .. written: an int, or a boolean -/
def FW (own : String) (idx ci k : Nat) (ty : FieldType) : Prop := ∃ (C : String) (T : u_T) (N : Nat) (t0 : Nat → FieldType), vwCl[ci]? = some (C, T, N) ∧ k < N ∧ (∀ w ∈ u_ws C T N, w ∈ lw_all) ∧ Cond.fieldLink own idx (T k).1 (T k).2.1 (T k).2.2.1 ∈ lw_all ∧
  (∀ k, k < N → parseFieldDescriptor (T k).2.2.1 = some (t0 k)) ∧ (∀ a, a < N → ∀ b, b < N → a ≠ b → (T a).2.1 ≠ (T b).2.1) ∧ (T k).2.2.2 = false ∧ parseFieldDescriptor (T k).2.2.1 = some ty
theorem ev_get {idx ci k a : Nat} {i o : Int} {fs : List Value} {v : Value} (f : FR (yN Y).cls idx ci k) (d : decode (yC Y) pc = .ok (.getfield idx, 3)) (hd : dom a i o) (he : entI G M a i o = .inr (ci, fs)) (hv : fs[k]? = some v) (kk : Ev G Y R u Z (pc + 3) lv (v :: st) M) : Ev G Y R u Z pc lv (rr G a i o :: st) M := by
  intro p e s m args below meth c H locs ls cells slots C hl hs hS hc hn
  obtain ⟨C9, T, N, f1, f2, f3, f4⟩ := f
  exact va_get C.1 C.2.1 C.2.2.2.2.1 f3 C.2.2.2.1 C.2.2.2.2.2.2.2.1.K hs (off a i o) ((wd_at hd).trans (by rw [he])) f1 k f2 (C.2.2.2.2.1 _ f4) (fun _ h => h) hv d (kk p e s m args below meth c H locs ls cells slots C hl hs hS hc hn)
theorem ev_put {idx ci k a : Nat} {i o x : Int} {fs : List Value} {ty : FieldType} (f : FW (yN Y).cls idx ci k ty) (d : decode (yC Y) pc = .ok (.putfield idx, 3)) (hd : dom a i o) (he : entI G M a i o = .inr (ci, fs)) (he' : entR G a i o.toNat (upI (M a i o) (k : Int) x) = .inr (ci, fs.set k (iv x))) (hty : narrow ty (iv x) = iv x) (hft : fits ty (iv x) = true) (hk : k < fs.length) (kk : Ev G Y R u Z (pc + 3) lv st (wr M a i o (k : Int) x)) : Ev G Y R u Z pc lv (iv x :: rr G a i o :: st) M := by
  intro p e s m args below meth c H locs ls cells slots C hl hs hS hc hn
  obtain ⟨C9, T, N, t0, f1, f2, f3, f4, f5, f6, f7, f8⟩ := f
  refine va_put C.1 C.2.1 C.2.2.2.2.1 f3 t0 f5 f6 C.2.2.2.1 C.2.2.2.2.2.2.2.1.K hs wd_D hS (off a i o) ((wd_at hd).trans (by rw [he])) f1 k f2 (C.2.2.2.2.1 _ f4) (fun _ h => h) f7 f8 hty hft hk d (fun H1 locs1 hP hD hS => ?_)
  rw [← he', wd_set hd] at hP
  exact kk p e s m args below meth c H1 locs1 ls cells slots C hl hP hS hc hn
-- arrays
theorem i32_idx {k : Int} {n : Nat} (h0 : 0 ≤ k) (h1 : k < (n : Int)) (hn : n ≤ 100000) : I32 k := by unfold I32; omega

theorem ev_iald {a n : Nat} {i o k : Int} (d : decode (yC Y) pc = .ok (.iaload, 1)) (hd : dom a i o) (he : ∀ r, entR G a i o.toNat r = aI (cyG G 0) n r) (hn9 : n ≤ 100000) (h0 : 0 ≤ k) (h1 : k < (n : Int)) (kk : Ev G Y R u Z (pc + 1) lv (iv (M a i o k) :: st) M) : Ev G Y R u Z pc lv (iv k :: rr G a i o :: st) M := by
  intro p e s m args below meth c H locs ls cells slots C hl hs hS hc hn
  have hi := i32_idx h0 h1 hn9
  refine va_iald C.1 C.2.1 C.2.2.2.2.2.2.2.1.K hs (off a i o) 0 ((wd_at hd).trans (by unfold entI; rw [he])) rfl (J_in h0 h1 hn9) d ?_
  rw [J_clamp hi]
  simp only [Int.toNat_of_nonneg h0]
  exact kk p e s m args below meth c H locs ls cells slots C hl hs hS hc hn
theorem ev_zald {a n : Nat} {i o k : Int} (d : decode (yC Y) pc = .ok (.baload, 1)) (hd : dom a i o) (he : ∀ r, entR G a i o.toNat r = aI (cyG G 1) n r) (hn9 : n ≤ 100000) (h0 : 0 ≤ k) (h1 : k < (n : Int)) (kk : Ev G Y R u Z (pc + 1) lv (iv (M a i o k) :: st) M) : Ev G Y R u Z pc lv (iv k :: rr G a i o :: st) M := by
  intro p e s m args below meth c H locs ls cells slots C hl hs hS hc hn
  have hi := i32_idx h0 h1 hn9
  refine va_zald C.1 C.2.1 C.2.2.2.2.2.2.2.1.K hs (off a i o) 1 ((wd_at hd).trans (by unfold entI; rw [he])) rfl (J_in h0 h1 hn9) d ?_
  rw [J_clamp hi]
  simp only [Int.toNat_of_nonneg h0]
  exact kk p e s m args below meth c H locs ls cells slots C hl hs hS hc hn
theorem ev_cald {a n : Nat} {i o k : Int} (d : decode (yC Y) pc = .ok (.caload, 1)) (hd : dom a i o) (he : ∀ r, entR G a i o.toNat r = aI (cyG G 2) n r) (hn9 : n ≤ 100000) (h0 : 0 ≤ k) (h1 : k < (n : Int)) (kk : Ev G Y R u Z (pc + 1) lv (iv (M a i o k) :: st) M) : Ev G Y R u Z pc lv (iv k :: rr G a i o :: st) M := by
  intro p e s m args below meth c H locs ls cells slots C hl hs hS hc hn
  have hi := i32_idx h0 h1 hn9
  refine va_cald C.1 C.2.1 C.2.2.2.2.2.2.2.1.K hs (off a i o) 2 ((wd_at hd).trans (by unfold entI; rw [he])) rfl (J_in h0 h1 hn9) d ?_
  rw [J_clamp hi]
  simp only [Int.toNat_of_nonneg h0]
  exact kk p e s m args below meth c H locs ls cells slots C hl hs hS hc hn
theorem ev_iast {a n : Nat} {i o k x : Int} (d : decode (yC Y) pc = .ok (.iastore, 1)) (hd : dom a i o) (he : ∀ r, entR G a i o.toNat r = aI (cyG G 0) n r) (hn9 : n ≤ 100000) (h0 : 0 ≤ k) (h1 : k < (n : Int)) (kk : Ev G Y R u Z (pc + 1) lv st (wr M a i o k x)) : Ev G Y R u Z pc lv (iv x :: iv k :: rr G a i o :: st) M := by
  intro p e s m args below meth c H locs ls cells slots C hl hs hS hc hn
  have hi := i32_idx h0 h1 hn9
  refine va_iast C.1 C.2.1 C.2.2.2.2.2.2.2.1.K hs wd_D hS (off a i o) 0 ((wd_at hd).trans (by unfold entI; rw [he])) rfl (J_in h0 h1 hn9) d (fun H1 locs1 hP hD hS => ?_)
  have e9 : (Sum.inl (cyG G 0, n, Sum.inl (upd (fun q : Nat => J (M a i o (q : Int))) (J k).toNatClampNeg (J x))) : va_E) = entR G a i o.toNat (upI (M a i o) k x) := by
    rw [he, J_clamp hi]
    congr 4
    funext q
    unfold upd upI
    by_cases hq : q = k.toNat
    · rw [if_pos hq, if_pos (by omega)]
    · rw [if_neg hq, if_neg (by omega)]
  rw [e9, wd_set hd] at hP
  exact kk p e s m args below meth c H1 locs1 ls cells slots C hl hP hS hc hn
theorem ev_zast {a n : Nat} {i o k x : Int} (d : decode (yC Y) pc = .ok (.bastore, 1)) (hd : dom a i o) (he : ∀ r, entR G a i o.toNat r = aI (cyG G 1) n r) (hn9 : n ≤ 100000) (h0 : 0 ≤ k) (h1 : k < (n : Int)) (hx : vp_nar .boolean (J x) = J x) (kk : Ev G Y R u Z (pc + 1) lv st (wr M a i o k x)) : Ev G Y R u Z pc lv (iv x :: iv k :: rr G a i o :: st) M := by
  intro p e s m args below meth c H locs ls cells slots C hl hs hS hc hn
  have hi := i32_idx h0 h1 hn9
  refine va_zast C.1 C.2.1 C.2.2.2.2.2.2.2.1.K hs wd_D hS (off a i o) 1 ((wd_at hd).trans (by unfold entI; rw [he])) rfl (J_in h0 h1 hn9) d (fun H1 locs1 hP hD hS => ?_)
  have e9 : (Sum.inl (cyG G 1, n, Sum.inl (upd (fun q : Nat => J (M a i o (q : Int))) (J k).toNatClampNeg (vp_nar .boolean (J x)))) : va_E) = entR G a i o.toNat (upI (M a i o) k x) := by
    rw [he, J_clamp hi, hx]
    congr 4
    funext q
    unfold upd upI
    by_cases hq : q = k.toNat
    · rw [if_pos hq, if_pos (by omega)]
    · rw [if_neg hq, if_neg (by omega)]
  rw [e9, wd_set hd] at hP
  exact kk p e s m args below meth c H1 locs1 ls cells slots C hl hP hS hc hn
theorem ev_cast {a n : Nat} {i o k x : Int} (d : decode (yC Y) pc = .ok (.castore, 1)) (hd : dom a i o) (he : ∀ r, entR G a i o.toNat r = aI (cyG G 2) n r) (hn9 : n ≤ 100000) (h0 : 0 ≤ k) (h1 : k < (n : Int)) (hx : vp_nar .char (J x) = J x) (kk : Ev G Y R u Z (pc + 1) lv st (wr M a i o k x)) : Ev G Y R u Z pc lv (iv x :: iv k :: rr G a i o :: st) M := by
  intro p e s m args below meth c H locs ls cells slots C hl hs hS hc hn
  have hi := i32_idx h0 h1 hn9
  refine va_cast C.1 C.2.1 C.2.2.2.2.2.2.2.1.K hs wd_D hS (off a i o) 2 ((wd_at hd).trans (by unfold entI; rw [he])) rfl (J_in h0 h1 hn9) d (fun H1 locs1 hP hD hS => ?_)
  have e9 : (Sum.inl (cyG G 2, n, Sum.inl (upd (fun q : Nat => J (M a i o (q : Int))) (J k).toNatClampNeg (vp_nar .char (J x)))) : va_E) = entR G a i o.toNat (upI (M a i o) k x) := by
    rw [he, J_clamp hi, hx]
    congr 4
    funext q
    unfold upd upI
    by_cases hq : q = k.toNat
    · rw [if_pos hq, if_pos (by omega)]
    · rw [if_neg hq, if_neg (by omega)]
  rw [e9, wd_set hd] at hP
  exact kk p e s m args below meth c H1 locs1 ls cells slots C hl hP hS hc hn
theorem ev_aald {a n t : Nat} {i o k : Int} {f : Nat → Option Nat} {q : Nat} (ht : t = 3 ∨ t = 4) (d : decode (yC Y) pc = .ok (.aaload, 1)) (hd : dom a i o) (he : entI G M a i o = aQ (cyG G t) n f) (hn9 : n ≤ 100000) (h0 : 0 ≤ k) (h1 : k < (n : Int)) (hq : f k.toNat = some q) (kk : Ev G Y R u Z (pc + 1) lv (.ref q :: st) M) : Ev G Y R u Z pc lv (iv k :: rr G a i o :: st) M := by
  intro p e s m args below meth c H locs ls cells slots C hl hs hS hc hn
  have hi := i32_idx h0 h1 hn9
  have hw : (wd G M)[off a i o]? = some (ad G a i o, aQ (cyG G t) n f) := (wd_at hd).trans (by rw [he])
  have hlt : (J k).toNatClampNeg < n := by rw [J_clamp hi]; omega
  have hin := J_in h0 h1 hn9
  obtain ⟨ty, hty, htr⟩ : ∃ ty, (tyG G)[t]? = some (cyG G t, ty) ∧ ty.isReference = true := by
    rcases ht with rfl | rfl
    · exact ⟨.object "TramLines$Line", rfl, rfl⟩
    · exact ⟨.array .int, rfl, rfl⟩
  refine W.aald (v := .ref q) (ty := ty) C.1 C.2.1 (hs _ _ hw) ((C.2.2.2.2.2.2.2.1.K.2 t _ hty).1 n (fun j => va_rf (f j))) htr (fun q => by cases q) (by show ¬ (J k < 0 ∨ (arrV _ _ _).slots.size ≤ _); rw [arrV_size]; exact hin) (by show (arrV _ _ _).slots[_]? = _; rw [arrV_read _ _ hlt, J_clamp hi, hq]; rfl) rfl rfl d (kk p e s m args below meth c H locs ls cells slots C hl hs hS hc hn)
end Steps9
