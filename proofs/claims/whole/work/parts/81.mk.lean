/-! ===== making: a world that grows, cell by cell ===== -/
def wE (G : GT) (es : List va_E) : va_W := es.mapIdx (fun i e => (bG G + i, e))
theorem wE_get {G : GT} {es : List va_E} (i : Nat) : (wE G es)[i]? = es[i]?.map (fun e => (bG G + i, e)) := by unfold wE; rw [List.getElem?_mapIdx]
theorem wE_at {G : GT} {es : List va_E} {i : Nat} {e : va_E} (h : es[i]? = some e) : (wE G es)[i]? = some (bG G + i, e) := by rw [wE_get, h]; rfl
theorem wE_set {G : GT} {es : List va_E} {i : Nat} {e : va_E} : (wE G es).set i (bG G + i, e) = wE G (es.set i e) := by
  apply List.ext_getElem?
  intro n
  rw [wE_get, List.getElem?_set, List.getElem?_set, wE_get]
  have hl : (wE G es).length = es.length := by unfold wE; rw [List.length_mapIdx]
  rw [hl]
  by_cases h : i = n
  · rw [if_pos h, if_pos h]
    split
    · rw [h]; rfl
    · rfl
  · rw [if_neg h, if_neg h]
theorem wE_app {G : GT} {es : List va_E} {e : va_E} : wE G es ++ [(bG G + es.length, e)] = wE G (es ++ [e]) := by
  apply List.ext_getElem?
  intro n
  have hl : (wE G es).length = es.length := by unfold wE; rw [List.length_mapIdx]
  rw [wE_get]
  by_cases h : n < es.length
  · rw [List.getElem?_append_left (by rw [hl]; exact h), List.getElem?_append_left h, wE_get]
  · rw [List.getElem?_append_right (by rw [hl]; omega), List.getElem?_append_right (by omega), hl]
    by_cases h2 : n = es.length
    · subst h2; rw [Nat.sub_self]; rfl
    · rw [List.getElem?_eq_none (by simp; omega), List.getElem?_eq_none (by simp; omega)]; rfl
theorem wE_D {G : GT} {es : List va_E} : va_D (AG G) (wE G es) := by
  have key : ∀ (k : Nat) (q : Nat × va_E), (wE G es)[k]? = some q → q.1 = bG G + k := fun k q h => by
    rw [wE_get] at h
    cases he : es[k]? with
    | none => rw [he] at h; cases h
    | some e => rw [he] at h; cases h; rfl
  refine ⟨fun i j p q hp hq e => ?_, fun k q hk => ?_⟩
  · have := key i p hp
    have := key j q hq
    omega
  · show bG G ≤ q.1
    rw [key k q hk]; omega
def rmC (d mc ms : Nat) : Room := { frames := d, cells := mc, slots := ms, locals := 46 * d }
def SimE (G : GT) (es : List va_E) (H : Heap) : Prop := va_P (dG G) vwCl (wE G es) H
def QcE (G : GT) (es' : List va_E) : Array Value → State → Outcome → State → Prop := fun _ st oc t => (oc = .returned none ∧ SimE G es' t.heap ∧ t.heap.size = bG G + es'.length) ∧ va_F (AG G) st t
def PcE (G : GT) (args : List Value) (es : List va_E) : Array Value → State → Prop := va_Pc args (fun U => GV G U ∧ SimE G es U.heap ∧ U.heap.size = bG G + es.length)
theorem PcE_blind {G : GT} {args : List Value} {es : List va_E} : FrameBlind (PcE G args es) := fun a U g mk h => ⟨h.1, ⟨h.2.1.1, h.2.1.2.1, h.2.1.2.2.1, h.2.1.2.2.2⟩, h.2.2.1, h.2.2.2⟩
def CallE (G : GT) (d mc ms : Nat) (Y : YT) (args : List Value) (es es' : List va_E) : Prop := Met (lG G) (yN Y) (wsY Y) (rmC d mc ms) (PcE G args es) (QcE G es') mc ms (AG G)
/-- from this instruction the constructor comes to its end, the world then es' -/
def EvE (G : GT) (Y : YT) (d mc ms n0 : Nat) (es' : List va_E) (w pc : Nat) (lv : List (Nat × Value)) (st : List Value) (es : List va_E) : Prop :=
  ∀ (p : Program) (e : Env) (s : State) (m : MethodId) (args : Array Value) (below : List Frame) (meth : Method) (c : Code) (H : Heap) (locs : List Loc) (ls : Array Slot) (cells slots : Nat),
    Cx G Y p s m args meth c → meth.name = (yN Y).name → lv_has ls (yL Y) lv → SimE G es H → va_S (AG G) s.heap H locs → s.heap.size = bG G + n0 → n0 + cells ≤ es.length → slots ≤ w →
    W p (lG G) e (rmC d mc ms) s m args below meth c H locs cells slots (MQ below (QcE G es') args s mc ms (AG G)) (F0 m pc ls st)
def inAll (l : List Cond) : Bool := l.all fun w => decide (w ∈ lw_tbl) && goodWord w
theorem inAll_mem {l : List Cond} (h : inAll l = true) : ∀ w ∈ l, w ∈ lw_all := fun w hw => by
  have q := List.all_eq_true.mp h w hw
  simp only [Bool.and_eq_true, decide_eq_true_eq] at q
  exact List.mem_filter.mpr q
section Mk
variable {G : GT} {Y : YT} {d mc ms n0 w pc : Nat} {es' es : List va_E} {lv : List (Nat × Value)} {st : List Value}
/-- how large the heap is -/
theorem ec_sz {p : Program} {l : Launch} {e : Env} {R : Room} {s : State} {m : MethodId} {args : Array Value} {below : List Frame} {meth : Method} {c : Code} {H : Heap} {locs : List Loc} {cells slots : Nat} {Q : State → Prop} {g : JFrame} {A : Nat → Prop}
    (hs : SimE G es H) (hS : va_S A s.heap H locs) (hz : s.heap.size = bG G + n0) (hc : n0 + cells ≤ es.length) (k : H.size = bG G + es.length → W p l e R s m args below meth c H locs cells slots Q g) : W p l e R s m args below meth c H locs cells slots Q g := by
  intro T hT X
  have h1 := X.heapSize
  rw [hT] at h1
  have h2 := hS.1
  refine k ?_ T hT X
  by_cases h0 : es.length = 0
  · omega
  · have hl : es.length - 1 < es.length := by omega
    have h3 := (hs _ _ (wE_at (G := G) (List.getElem?_eq_getElem hl))).lt
    have h4 : bG G + (es.length - 1) < H.size := h3
    omega
theorem ce_intro {args : List Value} (hy : plainName (yN Y).cls = true) (hh : yH Y = []) (hlen : (lg_sl args).length ≤ yL Y) (hlv : lv_args 0 args = lv)
    (k : EvE G Y d mc ms es.length es' 0 0 lv [] es) : CallE G d mc ms Y args es es' := by
  refine Met.ofW (cc := yC Y) (maxL := yL Y) (ret := yR Y) hy rfl ?_
  intro p e s m args0 below meth c s₁ B hml hP
  obtain ⟨rfl, hV, hs, hz⟩ := hP
  have hts : ∀ w ∈ lw_all, w.before args.toArray s = true := fun w h => atoms_spec (ws := wsY Y) B.pre w (List.mem_cons_of_mem _ h)
  have htl : c.exceptionTable.toList = tableOf (yH Y) := by 
    rw [hh]
    obtain ⟨meth9, c9, h1, h2, -, -, -, -, h7, -⟩ := Cond.code_spec B.named (atoms_spec (ws := wsY Y) B.pre _ List.mem_cons_self)
    cases Option.some.inj (h1.symm.trans B.method)
    cases Option.some.inj (h2.symm.trans (Stand.of_body B).code)
    rw [Array.isEmpty_iff.mp h7]
    rfl
  have hl := lv_entry args (n := yL Y) hlen
  rw [hlv] at hl
  rw [lg_entry_eq]
  exact k p e s m args.toArray below meth c s.heap [] _ 0 0 ⟨B.exec, B.bytes, hml, findClass_of_methodNamed B.named, hts, B.returns, B.notSynchronized, hV, htl⟩ (name_of_methodNamed B.named B.method).1 hl hs va_S.rf hz (by omega) (Nat.zero_le _)
theorem ec_ret (dd : decode (yC Y) pc = .ok (.return_, 1)) (hr : yR Y = none) (h1 : es.length ≤ n0 + mc) (h2 : w ≤ ms) (he : es = es') : EvE G Y d mc ms n0 es' w pc lv [] es := by
  intro p e s m args below meth c H locs ls cells slots C hm hl hs hS hz hc hn
  subst he
  refine ec_sz hs hS hz hc (fun hH => ?_)
  refine W.widen (k := mc) (n := ms) (by omega) (by omega) ?_
  exact W.vret C.1 C.2.1 (by rw [C.2.2.2.2.2.1, hr]) (fun t ht _ => ⟨⟨rfl, by rw [ht]; exact hs, by rw [ht]; exact hH⟩, hS.F ht⟩) hS.2.2 dd C.2.2.2.2.2.2.1
theorem ec_aload {f : Fin 4} {i j x : Nat} (dd : decode (yC Y) pc = .ok (.aload_n f, 1)) (hi : (f : Nat) = i) (hv : lv[j]? = some (i, .ref x)) (k : EvE G Y d mc ms n0 es' w (pc + 1) lv (.ref x :: st) es) : EvE G Y d mc ms n0 es' w pc lv st es :=
  fun p e s m args below meth c H locs ls cells slots C hm hl hs hS hz hc hn => lv_aload_n C.1 C.2.1 dd hi (lv_at hl j hv) (k p e s m args below meth c H locs ls cells slots C hm hl hs hS hz hc hn)
theorem ec_iload {f : Fin 4} {i j : Nat} {x : Int32} (dd : decode (yC Y) pc = .ok (.iload_n f, 1)) (hi : (f : Nat) = i) (hv : lv[j]? = some (i, .int x)) (k : EvE G Y d mc ms n0 es' w (pc + 1) lv (.int x :: st) es) : EvE G Y d mc ms n0 es' w pc lv st es :=
  fun p e s m args below meth c H locs ls cells slots C hm hl hs hS hz hc hn => lv_iload_n C.1 C.2.1 dd hi (lv_at hl j hv) (k p e s m args below meth c H locs ls cells slots C hm hl hs hS hz hc hn)
theorem ec_istore {f : Fin 4} {i : Nat} {x : Int32} {lv' : List (Nat × Value)} (dd : decode (yC Y) pc = .ok (.istore_n f, 1)) (hi : (f : Nat) = i) (hn : i < yL Y) (hq : (i, Value.int x) :: lv.filter (fun q => !(q.1 == i) && !(q.1 + 1 == i && q.2.category == 2)) = lv') (k : EvE G Y d mc ms n0 es' w (pc + 1) lv' st es) : EvE G Y d mc ms n0 es' w pc lv (.int x :: st) es :=
  fun p e s m args below meth c H locs ls cells slots C hm hl hs hS hz hc hn9 => lv_istore_n C.1 C.2.1 dd hi hl hn hq (fun ls hl => k p e s m args below meth c H locs ls cells slots C hm hl hs hS hz hc hn9)
theorem ec_iinc {i j : Nat} {n a : Int} {lv' : List (Nat × Value)} (dd : decode (yC Y) pc = .ok (.iinc i n, 3)) (hv : lv[j]? = some (i, iv a)) (hn : i < yL Y) (hq : (i, iv (a + n)) :: lv.filter (fun q => !(q.1 == i) && !(q.1 + 1 == i && q.2.category == 2)) = lv') (k : EvE G Y d mc ms n0 es' w (pc + 3) lv' st es) : EvE G Y d mc ms n0 es' w pc lv st es :=
  fun p e s m args below meth c H locs ls cells slots C hm hl hs hS hz hc hn9 => lv_iinc C.1 C.2.1 dd hl hv (J_add a n) hn hq (fun ls hl => k p e s m args below meth c H locs ls cells slots C hm hl hs hS hz hc hn9)
theorem ec_iconst {n : Int} (dd : decode (yC Y) pc = .ok (.iconst n, 1)) (k : EvE G Y d mc ms n0 es' w (pc + 1) lv (iv n :: st) es) : EvE G Y d mc ms n0 es' w pc lv st es :=
  fun p e s m args below meth c H locs ls cells slots C hm hl hs hS hz hc hn => lv_iconst (v := J n) C.1 C.2.1 dd rfl (k p e s m args below meth c H locs ls cells slots C hm hl hs hS hz hc hn)
theorem ec_bipush {n : Int} (dd : decode (yC Y) pc = .ok (.bipush n, 2)) (hv : (Int8.ofInt n).toInt32 = J n) (k : EvE G Y d mc ms n0 es' w (pc + 2) lv (iv n :: st) es) : EvE G Y d mc ms n0 es' w pc lv st es :=
  fun p e s m args below meth c H locs ls cells slots C hm hl hs hS hz hc hn => lv_bipush (v := J n) C.1 C.2.1 dd hv (k p e s m args below meth c H locs ls cells slots C hm hl hs hS hz hc hn)
theorem ec_sipush {n : Int} (dd : decode (yC Y) pc = .ok (.sipush n, 3)) (hv : (Int16.ofInt n).toInt32 = J n) (k : EvE G Y d mc ms n0 es' w (pc + 3) lv (iv n :: st) es) : EvE G Y d mc ms n0 es' w pc lv st es :=
  fun p e s m args below meth c H locs ls cells slots C hm hl hs hS hz hc hn => lv_sipush (v := J n) C.1 C.2.1 dd hv (k p e s m args below meth c H locs ls cells slots C hm hl hs hS hz hc hn)
theorem ec_dup {v : Value} (dd : decode (yC Y) pc = .ok (.dup, 1)) (hv : v.category = 1) (k : EvE G Y d mc ms n0 es' w (pc + 1) lv (v :: v :: st) es) : EvE G Y d mc ms n0 es' w pc lv (v :: st) es :=
  fun p e s m args below meth c H locs ls cells slots C hm hl hs hS hz hc hn => lv_dup C.1 C.2.1 dd hv (k p e s m args below meth c H locs ls cells slots C hm hl hs hS hz hc hn)
theorem ec_goto {o : Int} (t : Nat) (dd : decode (yC Y) pc = .ok (.goto o, 3)) (ht : (pc : Int) + o = (t : Int)) (k : EvE G Y d mc ms n0 es' w t lv st es) : EvE G Y d mc ms n0 es' w pc lv st es :=
  fun p e s m args below meth c H locs ls cells slots C hm hl hs hS hz hc hn => lv_goto C.1 C.2.1 dd ht (k p e s m args below meth c H locs ls cells slots C hm hl hs hS hz hc hn)
/-- Object's constructor -/
theorem ec_obj {idx b : Nat} (hw : inAll [Cond.methodLink (yN Y).cls idx Lib.objectInit, Cond.instanceMethod Lib.objectInit, Cond.code Lib.objectInit ⟨#[0xb1]⟩ 1 none] = true) (dd : decode (yC Y) pc = .ok (.invokespecial idx, 3)) (hd : 1 ≤ d) (hst : (st.map fun v => v.category).sum ≤ 8) (k : EvE G Y d mc ms n0 es' w (pc + 3) lv st es) : EvE G Y d mc ms n0 es' w pc lv (.ref b :: st) es := by
  intro p e s m args below meth c H locs ls cells slots C hm hl hs hS hz hc hn
  have hts := C.2.2.2.2.1
  have hi := inAll_mem hw
  refine W.objInit C.1 C.2.1 C.2.2.2.1 (hts _ (hi _ (by simp))) (hts _ (hi _ (by simp))) (hts _ (hi _ (by simp))) rfl (by rw [C.2.2.1]; exact hl.1) rfl dd hd ?_ ?_
  · have := lv_room (m := m) (pc := pc) (ls := ls) (rest := .ref b :: st) hst
    show 2 * (F0 m pc ls (.ref b :: st)).monitorRoom + (st.map fun v => v.category).sum + 12 ≤ 46 * d
    omega
  · exact W.eq (g2 := F0 m (pc + 3) ls st) rfl (k p e s m args below meth c H locs ls cells slots C hm hl hs hS hz hc hn)
/-- a row of numbers -/
theorem ec_newa {t n : Nat} {ty : FieldType} {at9 : ArrayType} {q : Nat} (dd : decode (yC Y) pc = .ok (.newarray at9, 2)) (hty : newarray.typeOf at9 = ty) (hw : Cond.arrayClass ty ∈ lw_all) (ht : (tyG G)[t]? = some (cyG G t, ty)) (hra : va_RA (s0G G) (cyG G t) ty = ((s0G G).vm.findClass ("[" ++ ty.toString) = some (cyG G t)))
    (ha : ∀ cA : ClassId, vp_cell cA (n, .inl (fun _ => (0 : Int32))) = arrV cA n (fun _ => defaultValue ty)) (hn9 : n ≤ 100000) (hb : n * componentBytes ty ≤ 536870912) (h1 : es.length + 1 ≤ n0 + mc) (h2 : w + n ≤ ms) (hq : bG G + es.length = q)
    (k : EvE G Y d mc ms n0 es' (w + n) (pc + 2) lv (.ref q :: st) (es ++ [.inl (cyG G t, n, .inl (fun _ => (0 : Int32)))])) : EvE G Y d mc ms n0 es' w pc lv (iv (n : Int) :: st) es := by
  intro p e s m args below meth c H locs ls cells slots C hm hl hs hS hz hc hn
  have hV := C.2.2.2.2.2.2.2.1
  have hi : I32 (n : Int) := by unfold I32; omega
  refine ec_sz hs hS hz hc (fun hH => ?_)
  subst hty
  refine va_newaK C.1 C.2.1 (C.2.2.2.2.1 _ hw) rfl dd rfl (N := n) ?_ ?_ hb ?_ ?_ hH (fun H1 cA e1 z1 o1 hAr hNm => ?_)
  · have h0' : (0 : Int32) = J 0 := rfl
    rw [h0', J_lt hi I32_0]; omega
  · rw [J_clamp hi]; omega
  · show cells + 1 ≤ mc
    omega
  · show slots + n ≤ ms
    omega
  · have hc9 : cA = cyG G t := by
      have h9 := (hV.1.1.2 t _ ht).2
      rw [hra] at h9
      have h8 : s.vm.findClass ("[" ++ (newarray.typeOf at9).toString) = some (cyG G t) := by rw [hV.2.1.alike.findClass]; exact h9
      rw [hNm] at h8
      exact Option.some.inj h8
    subst hq
    subst hc9
    refine k p e s m args below meth c H1 locs ls (cells + 1) (slots + n) C hm hl ?_ ⟨Nat.le_trans hS.1 (by omega), fun x h1 h2 => (o1 x (by have := hS.1; omega)).trans (hS.2.1 x h1 h2), hS.2.2⟩ hz (by rw [List.length_append]; show n0 + (cells + 1) ≤ es.length + 1; omega) (by omega)
    unfold SimE
    rw [← wE_app]
    refine (va_P.kept hs (fun k x hx => o1 x.1 (by have := (hs k x hx).lt; omega))).app (fun k x hx => ?_)
    have h0 : k < 1 := (List.getElem?_eq_some_iff.mp hx).1
    rw [show k = 0 by omega] at hx
    cases hx
    show H1[bG G + es.length]? = some (vp_cell _ _)
    rw [ha]
    exact e1
end Mk
