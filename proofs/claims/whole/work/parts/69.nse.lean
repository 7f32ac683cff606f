/-! ===== NoSuchElementException: a class whose constructor passes its text on by another link ===== -/
abbrev nsE : String := "java/util/NoSuchElementException"
/-- the words that such a throw wants -/
def nx_own (own : String) (ic : Nat) : List Cond := Bundle.throwableAtoms ++ Bundle.throwableSAtoms ++ (Bundle.passSAtoms nsE "java/lang/RuntimeException" 13 prog_29_method_4_code ++ Bundle.chainSAtoms "java/lang/RuntimeException" ["java/lang/Exception"]) ++
  [.methodLink own ic (Bundle.initS nsE), .instantiable nsE 6, .castable nsE nsE, .selects nsE Bundle.tFill0 Bundle.tFill0, .selects nsE Bundle.tFill Bundle.tFill] ++ ["cause", "stackTrace", "suppressedExceptions", "detailMessage", "backtrace"].zipWith (fun f d => Cond.lays nsE Bundle.tN f d) ["Ljava/lang/Throwable;", Bundle.steD, Bundle.listD, "Ljava/lang/String;", "Ljava/lang/Object;"] ++
  [.isRef (.static Bundle.tN "UNASSIGNED_STACK" Bundle.steD), .isRef (.static Bundle.tN "SUPPRESSED_SENTINEL" Bundle.listD), .fieldLink Bundle.tN 198 Bundle.tN "backtrace" "Ljava/lang/Object;", .lays Bundle.tN Bundle.tN "backtrace" "Ljava/lang/Object;"]
def nx_at (own : String) (ic : Nat) : List Cond := (nx_own own ic).filter vx_no
theorem nx_fit : Bundle.fit nsE = true := by decide +kernel
theorem nx_x0 : decode prog_29_method_4_code 0 = .ok (.aload_n 0, 1) := by decide +kernel
theorem nx_x1 : decode prog_29_method_4_code 1 = .ok (.aload_n 1, 1) := by decide +kernel
theorem nx_x2 : decode prog_29_method_4_code 2 = .ok (.invokespecial 13, 3) := by decide +kernel
theorem nx_x5 : decode prog_29_method_4_code 5 = .ok (.return_, 1) := by decide +kernel
set_option maxHeartbeats 1000000 in
/-- its constructor with a text, and the throw behind it, where no traces are made -/
theorem nx_ctor {p : Program} {l : Launch} {e : Env} {R : Room} {s : State} {m₀ : MethodId} {args : Array Value} {below : List Frame} {meth : Method} {c : Code} {W : State} {locs : List Loc} {cells slots : Nat}
    (X : Stand p l e R s m₀ args below meth c W locs cells slots) (hexec : p.tables.exec = Jvm.exec) (htr : e.platform.stackTraces = false) {own : String} {ic : Nat} (hown : s.vm.findClass own = some m₀.cls) (h : ∀ a ∈ nx_own own ic, a.before args s = true)
    (hlocs : ∀ x ∈ locs, ∀ cell, s.heap[x.base]? = some cell → cell.vm.isStatics = false)
    {a : Addr} {cX : ClassId} {kX : Class} (hfoundX : s.vm.findClass nsE = some cX) (hkX : s.vm.classes[cX]? = some kX) (hcell : W.heap[a]? = some (freshCell cX kX)) (hnew : s.heap.size ≤ a) {msg : Value} (hmsg : msg.isRef = true)
    {g : JFrame} (hg : g.method = m₀) (hsize : g.locals.size = c.maxLocals) (hlocked : g.locked = none) (hentered : g.entered = []) {rest : List Value} (hstack : g.stack = msg :: .ref a :: .ref a :: rest)
    (hd6 : decode c.code g.pc = .ok (.invokespecial ic, 3)) (hd9 : decode c.code (g.pc + 3) = .ok (.athrow, 1)) (hout : ∀ x ∈ c.exceptionTable.toList, covers x (g.pc + 3) = false)
    (hRframes : 2 + 3 < R.frames) (hRlocals : 2 * g.monitorRoom + ((Value.ref a :: rest).map fun v => v.category).sum + (13 * (2 + 1) + 42) ≤ R.locals) (hlocks : meth.locks = false) :
    ∃ U : State, Steps p.tables e below (W.setTop g) U ∧ U.status = .running ∧ Ended U below (.threw a) ∧ s.WarmedH U.vm ∧ s.sameButNew ({ U with vm := s.vm } : State) locs cells slots ∧ ∃ ce, U.heap[a]? = some ce ∧ s.vm.findClass nsE = some ce.cls ∧ ce.vm = .none := by
  have howns : e.platform.frameOwnsMonitors = true := by rw [X.admits.platform]
  have hfin : e.platform.finalization = false := by rw [X.admits.platform]
  have hpl : e.platform.magicAccessors = ({} : Platform).magicAccessors := by rw [X.admits.platform]
  have mem : ∀ w, w ∈ nx_own own ic → w.holds args s none s [] = true := fun w hw => h w hw
  obtain ⟨T, Z0, L, -, Y⟩ := ThrowableC.of_atoms (args := args) howns hfin hpl (fun x hx => h x (by simp [nx_own, hx]))
  obtain ⟨Z, Mz, LZ, LM, hnZ⟩ := Init0T.ofS_atoms (args := args) hpl L Y (fun x hx => h x (by simp [nx_own, hx]))
  -- the chain of constructors: its own, then the two of the kit's form
  obtain ⟨P0, L0, hP0m, hP0s⟩ := PassC.ofS_atoms (args := args) (s := s) hpl (X := nsE) (Y := "java/lang/RuntimeException") (Bundle.fit_spec nx_fit).1 (by decide) nx_x0 nx_x1 nx_x2 nx_x5 (fun x hx => h x (by simp [nx_own, hx]))
  obtain ⟨P1, Ps, hlen, L1, hL, hP1m, hsup, hpass⟩ := Bundle.chainS (args := args) hpl hnZ ["java/lang/Exception"] "java/lang/RuntimeException" (by decide +kernel) (by decide +kernel) (fun x hx => h x (by simp [nx_own, hx]))
  have hlinks : ∀ P, P ∈ P0 :: P1 :: Ps → P.LinksS e.platform s := fun P hP => by
    rcases List.mem_cons.mp hP with rfl | hP
    · exact L0
    · rcases List.mem_cons.mp hP with rfl | hP
      · exact L1
      · exact hL P hP
  have hfound : s.vm.findClass nsE = some P0.m.cls := findClass_of_methodNamed hP0m
  cases Option.some.inj (hfoundX.symm.trans hfound)
  obtain ⟨c1, kX', hc1, hk, hord, -, -, hn6⟩ := Cond.instantiable_spec (mem (.instantiable nsE 6) (by simp [nx_own]))
  cases Option.some.inj (hc1.symm.trans hfound)
  cases Option.some.inj (hkX.symm.trans hk)
  have hsel0 : selectMethod e.platform s.vm P0.m.cls T.fill0 = .method T.fill0 := by
    obtain ⟨c2, r2, m2, q1, q2, q3, q4, -⟩ := Cond.selects_spec (mem (.selects nsE Bundle.tFill0 Bundle.tFill0) (by simp [nx_own]))
    cases Option.some.inj (q1.symm.trans hfound)
    cases Option.some.inj (q2.symm.trans (State.methodFound?_of_named Y.fill0 (by decide)))
    cases Option.some.inj (q3.symm.trans Y.fill0)
    rw [Launch.admits_selectMethod X.admits]; exact q4
  have hselF : selectMethod e.platform s.vm P0.m.cls T.fill = .method T.fill := by
    obtain ⟨c2, r2, m2, q1, q2, q3, q4, -⟩ := Cond.selects_spec (mem (.selects nsE Bundle.tFill Bundle.tFill) (by simp [nx_own]))
    cases Option.some.inj (q1.symm.trans hfound)
    cases Option.some.inj (q2.symm.trans (State.methodFound?_of_named Y.fill (by decide)))
    cases Option.some.inj (q3.symm.trans Y.fill)
    rw [Launch.admits_selectMethod X.admits]; exact q4
  obtain ⟨cellS0, hcS0, hiss⟩ := Y.statics
  obtain ⟨u0, hu0⟩ := Cond.staticRefV Y.unassigned L.unassignedStatic L.statics hcS0 hiss (mem (.isRef (.static Bundle.tN "UNASSIGNED_STACK" Bundle.steD)) (by simp [nx_own]))
  obtain ⟨sen, hsen⟩ := Cond.staticRefV Y.sentinel L.sentinelStatic L.statics hcS0 hiss (mem (.isRef (.static Bundle.tN "SUPPRESSED_SENTINEL" Bundle.listD)) (by simp [nx_own]))
  obtain ⟨ci198, i198, fB, hk198, hg198, ha198, hsB, -, hnB, htB, hffB⟩ := Cond.ownField (t := .object "java/lang/Object") Y.found L.cls (by decide +kernel) (mem (.fieldLink Bundle.tN 198 Bundle.tN "backtrace" "Ljava/lang/Object;") (by simp [nx_own])) (mem (.lays Bundle.tN Bundle.tN "backtrace" "Ljava/lang/Object;") (by simp [nx_own])) e.platform hpl
  obtain ⟨cellS, hcS', heS, -, hkeep⟩ := X.same.2.2.2.2.2 T.aS cellS0 hcS0
  have hcellS : W.heap[T.aS]? = some cellS := hcS'
  have hout' : ∀ i, (⟨T.aS, i⟩ : Loc) ∉ locs := fun i hmem => by
    have := hlocs _ hmem cellS0 hcS0
    rw [hiss] at this; cases this
  have hknownS : cellS.vm ≠ .unknown := by
    rw [heS]; intro hu
    rw [show cellS0.vm = .unknown from hu] at hiss
    cases hiss
  have hneS : T.aS ≠ a := Nat.ne_of_lt (Nat.lt_of_lt_of_le (Array.getElem?_eq_some_iff.mp hcS0).1 hnew)
  obtain ⟨iM, hffM⟩ := Y.msg
  obtain ⟨tyC, dC, hdC, hdnC⟩ := Cond.laysAt hfound hk Y.cause (mem (.lays nsE Bundle.tN "cause" "Ljava/lang/Throwable;") (by simp [nx_own]))
  obtain ⟨tyS, dS, hdS, hdnS⟩ := Cond.laysAt hfound hk Y.stack (mem (.lays nsE Bundle.tN "stackTrace" Bundle.steD) (by simp [nx_own]))
  obtain ⟨tyP, dP, hdP, hdnP⟩ := Cond.laysAt hfound hk Y.supp (mem (.lays nsE Bundle.tN "suppressedExceptions" Bundle.listD) (by simp [nx_own]))
  obtain ⟨tyM, dM, hdM, hdnM⟩ := Cond.laysAt hfound hk hffM (mem (.lays nsE Bundle.tN "detailMessage" "Ljava/lang/String;") (by simp [nx_own]))
  obtain ⟨tyB, dB, hdB, hdnB⟩ := Cond.laysAt hfound hk hffB (mem (.lays nsE Bundle.tN "backtrace" "Ljava/lang/Object;") (by simp [nx_own]))
  have bC := Cond.laysApart hdB hdC hdnB hdnC (by rw [hnB, Y.causeName]; decide)
  have bS := Cond.laysApart hdB hdS hdnB hdnS (by rw [hnB, Y.stackName]; decide)
  have bP := Cond.laysApart hdB hdP hdnB hdnP (by rw [hnB, Y.suppName]; decide)
  have hskip : SkipFacts T e.platform s (fun u => u) u0 ((preparedCellV T.toThrowableT (freshCell P0.m.cls kX) a u0 sen).withEntry W.cur) :=
    ⟨{ ci198 := ci198, i198 := i198, fBack := fB }, ⟨hk198, hg198, ha198, hsB⟩, by
      have := fresh_default (c := P0.m.cls) tyB
      rw [htB] at this
      simpa [preparedCellV, Cell.setSlot, Cell.withEntry, Array.getElem?_setIfInBounds, bC, bS, bP, bC.symm, bS.symm, bP.symm, defaultValue] using this, fun _ _ => rfl⟩
  obtain ⟨tm, methC, cdC, kC, vm₁, hnC, -, -, -, -, -, -, -, hW₁, st1⟩ := Steps.initColdS (tb := p.tables) (e := e) (below := below) (s := s) (U := W) X.here hexec X.warmed hpl hown (t := Bundle.initS nsE) rfl rfl (Bundle.fit_spec nx_fit).2
    (mem (.methodLink own ic (Bundle.initS nsE)) (by simp [nx_own])) (h (.instanceMethod (Bundle.initS nsE)) (by simp [nx_own, Bundle.passSAtoms])) (bytes := prog_29_method_4_code) (maxL := 2) (h (.code (Bundle.initS nsE) prog_29_method_4_code 2 none) (by simp [nx_own, Bundle.passSAtoms]))
    (f := g) hg (a := a) (msg := msg) (rest := .ref a :: rest) hstack hd6
  cases Option.some.inj (hnC.symm.trans hP0m)
  have X₁ := X.noted hW₁
  have hsup0 : P0.sup = P1.m := Option.some.inj (hP0s.symm.trans hP1m)
  obtain ⟨vm₂, X₂, st2⟩ := X₁.ctorMessageOffV hexec (g := { g with stack := .ref a :: rest }) hg hsize T L Z LZ Mz LM (P0 :: P1 :: Ps) hlinks ⟨hsup0, hsup, hpass⟩ (u0 := u0) (sen := sen) (self := a) hmsg (cell := freshCell P0.m.cls kX) (cellS := cellS)
    hcell (fun _ => by simp) (by simp) rfl rfl hsel0 hselF hcellS hneS hknownS (by rw [hkeep _ (hout' _)]; exact hu0) (by rw [hkeep _ (hout' _)]; exact hsen)
    (Takes.of_laid hk hord tyC (by rw [Y.causeType]; rfl)) (Takes.of_laid hk hord tyS (by rw [Y.stackType]; exact fits_refV_array _ u0)) (Takes.of_laid hk hord tyP (by rw [Y.suppType]; exact fits_refV_object _ sen))
    (Takes.of_laid hk hord tyM (by rw [Y.msgType]; exact fits_refV_object _ ⟨msg, hmsg⟩)) Y.objLocals hskip htr [] hd6
    (by simp only [List.length_cons, hlen, List.length_nil]; omega) (by simp only [List.length_cons, hlen, List.length_nil]; exact hRlocals)
  obtain ⟨hwalk, hrun, hended, hWU, hsame⟩ := X₂.athrowLeaves hexec (g := { g with stack := .ref a :: rest, pc := g.pc + 3 }) hg hlocked hentered hout (a := a) (rest := rest) rfl hd9
  have hlt : a < ((W.setVm vm₁).setVm vm₂).heap.size := (Array.getElem?_eq_some_iff.mp hcell).1
  have hU := heapAt_setCell_self (s := (W.setVm vm₁).setVm vm₂) (plainBareV T.toThrowableT (freshCell P0.m.cls kX) a u0 sen msg) hlt
  refine ⟨_, st1 _ (fun acts => ?_), hrun, hended, hWU, hsame.weaken (fun y hy hlt' => ?_) (Nat.le_refl _) (Nat.le_refl _), _, hU, hfound, rfl⟩
  · rw [doInvoke_state]
    exact st2 _ hwalk
  · rcases List.mem_append.mp hy with h1 | h1
    · exact h1
    · exfalso
      have hb : y.base = a := by
        simp only [List.mem_cons, List.not_mem_nil, or_false] at h1
        rcases h1 with rfl | rfl | rfl | rfl | rfl <;> rfl
      rw [hb] at hlt'
      exact Nat.not_lt.mpr hnew hlt'

section Nx
variable {p : Program} {l : Launch} {e : Env} {R : Room} {s : State} {m : MethodId} {args : Array Value} {below : List Frame} {meth : Method} {c : Code} {H : Heap} {locs : List Loc} {cells slots : Nat} {Qc : Array Value → State → Outcome → State → Prop} {XC : String → State → State → Prop} {free : Addr → Prop} {ls : Array Slot} {rest : List Value}
theorem nx_throwS {cc : ByteArray} {pc : Nat} (hexec : p.tables.exec = Jvm.exec) (hb : c.code = cc) (hl : l.stackTraces = false) {own text : String} {ik is ic mc ms sa : Nat} {A : Nat → Prop}
    (hown : s.vm.findClass own = some m.cls) 
    (hk : (Cond.classLink own ik nsE).before args s = true) (hini : (Cond.initialized nsE).before args s = true) (hstr : vk_R own is text sa s) (hat : ∀ w ∈ nx_at own ic, w.before args s = true)
    (hgood : ∀ w ∈ Cond.classLink own ik nsE :: Cond.initialized nsE :: nx_at own ic, vx_ot w = true)
    (hU : vx_Zq Bundle.tN "UNASSIGNED_STACK" Bundle.steD A s s.heap) (hN : vx_Zq Bundle.tN "SUPPRESSED_SENTINEL" Bundle.listD A s s.heap) (hS : va_S A s.heap H locs) (hsize : ls.size = c.maxLocals)
    (d0 : decode cc pc = .ok (.new ik, 3)) (d3 : decode cc (pc + 3) = .ok (.dup, 1)) (d4 : decode cc (pc + 4) = .ok (.ldc is, 2)) (d6 : decode cc (pc + 6) = .ok (.invokespecial ic, 3)) (d9 : decode cc (pc + 9) = .ok (.athrow, 1))
    (hout : ∀ x ∈ c.exceptionTable.toList, covers x (pc + 9) = false)
    (hRframes : 2 + 3 < R.frames) (hRlocals : (rest.map fun v => v.category).sum + (13 * (2 + 1) + 43) ≤ R.locals) (hRcells : cells + 1 ≤ R.cells) (hRslots : slots + 6 ≤ R.slots) (hlocks : meth.locks = false)
    (hx : ∀ t : State, s.vm.Alike t.vm → H.size ≤ t.heap.size → (∀ q : Nat, q < H.size → t.heap[q]? = H[q]?) → XC nsE s t)
    (hf : ∀ z ∈ locs, free z.base) (hc : cells + 1 ≤ mc) (hs : slots + 6 ≤ ms) :
    W p l e R s m args below meth c H locs cells slots (vx_MQ below Qc XC args s mc ms free) (F0 m pc ls rest) := by
  intro T hT X
  have htr : e.platform.stackTraces = false := (show e.platform.stackTraces = l.stackTraces by rw [X.admits.platform]).trans hl
  have Y := vx_rebase X (R' := { frames := R.frames, locals := R.locals, cells := 1, slots := 6 }) (Nat.le_refl _) (Nat.le_refl _) hRcells hRslots
  obtain ⟨s', hA⟩ : ∃ z, z = (T.setVm s.vm).setFrames (.invoking m args :: below) := ⟨_, rfl⟩
  rw [← hA] at Y
  have hvm : s'.vm = s.vm := by rw [hA]; rfl
  have hhp : s'.heap = H := by rw [hA]; exact hT
  have hW0 : s.WarmedH s'.vm := by rw [hvm]; exact State.WarmedH.refl s
  have hat' : ∀ w ∈ nx_at own ic, w.before args s' = true := fun w hw => vx_ot_at hW0 hvm.symm (hgood w (List.mem_cons_of_mem _ (List.mem_cons_of_mem _ hw))) (hat w hw)
  have hk' : (Cond.classLink own ik nsE).before args s' = true := vx_ot_at hW0 hvm.symm (hgood _ List.mem_cons_self) hk
  have hini' : (Cond.initialized nsE).before args s' = true := vx_ot_at hW0 hvm.symm (hgood _ (List.mem_cons_of_mem _ List.mem_cons_self)) hini
  have hU' : vx_Zq Bundle.tN "UNASSIGNED_STACK" Bundle.steD A s' s'.heap := by rw [hhp]; exact vx_Zq.moved hW0.alike (hU.kept hS.2.1)
  have hN' : vx_Zq Bundle.tN "SUPPRESSED_SENTINEL" Bundle.listD A s' s'.heap := by rw [hhp]; exact vx_Zq.moved hW0.alike (hN.kept hS.2.1)
  have h : ∀ w ∈ nx_own own ic, w.before args s' = true := vx_own hat' (vx_isRefq hU'.1) (vx_isRefq hN'.1) hU'.2.word hN'.2.word
  have hown' : s'.vm.findClass own = some m.cls := by rw [hvm]; exact hown
  have hins : (Cond.instantiable nsE 6).before args s' = true := h _ (by simp [nx_own])
  obtain ⟨vm₁, cX, kX, hfX, hkX, -, -, X₁, st1⟩ := Y.newCold hexec (own := own) (C := nsE) (index := ik) (n := 6) hown' hk' hins hini'
    (g := F0 m pc ls rest) rfl (by rw [hb]; exact d0) (Nat.le_refl _) (Nat.le_refl _)
  generalize hT1 : (T.setVm vm₁).pushCell { cls := cX, slots := kX.instanceTypes.map defaultValue, vm := .none } = T1 at X₁ st1
  have hcat : (Value.ref T.heap.size).category = 1 := rfl
  have hcellA : T1.heap[T.heap.size]? = some (freshCell cX kX) := by rw [← hT1]; exact State.heap_pushCell_size _ _
  have d3' : decode c.code (pc + 3) = .ok (.dup, 1) := by rw [hb]; exact d3
  have d4' : decode c.code (pc + 4) = .ok (.ldc is, 2) := by rw [hb]; exact d4
  have hstr' : vk_R own is text sa s' := vk_R.warm hW0 hstr
  obtain ⟨U, hsteps, hrun, hend, hW, hsame, ce, hce, hO1, hO2⟩ := nx_ctor X₁ hexec htr (own := own) (ic := ic) hown' h (fun x hx => nomatch hx) hfX hkX hcellA (by rw [hhp, hT]; exact Nat.le_refl _) (msg := .ref sa) rfl
    (g := { method := m, pc := pc + 6, locals := ls, stack := .ref sa :: .ref T.heap.size :: .ref T.heap.size :: rest, locked := none }) rfl hsize rfl rfl (rest := rest) rfl
    (by rw [hb]; exact d6) (by rw [hb]; exact d9) hout hRframes (by simp only [List.map_cons, List.sum_cons, hcat]; omega) hlocks
  obtain ⟨f1, f2⟩ := vx_frame hsame
  rw [hhp] at f1 f2
  have hWs : s.WarmedH U.vm := State.WarmedH.trans hW0 hW
  have hcl : s.vm.findClass nsE = some ce.cls := by
    have h9 := hO1
    rw [hvm] at h9
    exact h9
  have hall : s.sameButNew ({ U with vm := s.vm } : State) locs mc ms := by
    subst hA
    obtain ⟨e1, e2⟩ := hsame
    rw [State.setFrames_setFrames] at e1
    have h2 : (T.setVm s.vm).sameButNew ({ U with vm := s.vm } : State) [] (0 + 1) (0 + 6) := ⟨e1, e2⟩
    have h3 := X.same.trans h2
    rw [List.append_nil] at h3
    exact h3.mono hc hs
  refine ⟨U, ?_, .threw T.heap.size, hrun, hend, Or.inr ⟨T.heap.size, rfl, nsE, ce, locs, hx U hWs.alike f1 (fun q hq => f2 q hq (fun z hz => nomatch hz)), hce, hO2, hcl, hWs, hall, hf⟩⟩
  refine st1 _ ?_
  show Steps p.tables e below (T1.setTop { method := m, pc := pc + 3, locals := ls, stack := .ref T.heap.size :: rest, locked := none }) _
  jvm_step X₁.here [X₁.here.top, hexec, d3', Value.category]
  exact X₁.ldcString hexec (own := own) (text := text) (index := is) (a := sa) hown' hstr'.1 hstr'.2
    (g := { method := m, pc := pc + 4, locals := ls, stack := .ref T.heap.size :: .ref T.heap.size :: rest, locked := none }) rfl d4' _ hsteps

theorem nx_throwSW {cc : ByteArray} {pc : Nat} (hexec : p.tables.exec = Jvm.exec) (hb : c.code = cc) (hl : l.stackTraces = false) {own text : String} {ik is ic mc ms sa : Nat} {A : Nat → Prop}
    (hown : s.vm.findClass own = some m.cls) 
    (hk : (Cond.classLink own ik nsE).before args s = true) (hini : (Cond.initialized nsE).before args s = true) (hstr : vk_R own is text sa s) (hat : ∀ w ∈ nx_at own ic, w.before args s = true)
    (hgood : ∀ w ∈ Cond.classLink own ik nsE :: Cond.initialized nsE :: nx_at own ic, vx_ot w = true)
    (hU : vx_Zq Bundle.tN "UNASSIGNED_STACK" Bundle.steD A s s.heap) (hN : vx_Zq Bundle.tN "SUPPRESSED_SENTINEL" Bundle.listD A s s.heap) (hS : va_S A s.heap H locs) (hsize : ls.size = c.maxLocals)
    (d0 : decode cc pc = .ok (.new ik, 3)) (d3 : decode cc (pc + 3) = .ok (.dup, 1)) (d4 : decode cc (pc + 4) = .ok (.ldc_w is, 3)) (d7 : decode cc (pc + 7) = .ok (.invokespecial ic, 3)) (d10 : decode cc (pc + 10) = .ok (.athrow, 1))
    (hout : ∀ x ∈ c.exceptionTable.toList, covers x (pc + 10) = false)
    (hRframes : 2 + 3 < R.frames) (hRlocals : (rest.map fun v => v.category).sum + (13 * (2 + 1) + 43) ≤ R.locals) (hRcells : cells + 1 ≤ R.cells) (hRslots : slots + 6 ≤ R.slots) (hlocks : meth.locks = false)
    (hx : ∀ t : State, s.vm.Alike t.vm → H.size ≤ t.heap.size → (∀ q : Nat, q < H.size → t.heap[q]? = H[q]?) → XC nsE s t)
    (hf : ∀ z ∈ locs, free z.base) (hc : cells + 1 ≤ mc) (hs : slots + 6 ≤ ms) :
    W p l e R s m args below meth c H locs cells slots (vx_MQ below Qc XC args s mc ms free) (F0 m pc ls rest) := by
  intro T hT X
  have htr : e.platform.stackTraces = false := (show e.platform.stackTraces = l.stackTraces by rw [X.admits.platform]).trans hl
  have Y := vx_rebase X (R' := { frames := R.frames, locals := R.locals, cells := 1, slots := 6 }) (Nat.le_refl _) (Nat.le_refl _) hRcells hRslots
  obtain ⟨s', hA⟩ : ∃ z, z = (T.setVm s.vm).setFrames (.invoking m args :: below) := ⟨_, rfl⟩
  rw [← hA] at Y
  have hvm : s'.vm = s.vm := by rw [hA]; rfl
  have hhp : s'.heap = H := by rw [hA]; exact hT
  have hW0 : s.WarmedH s'.vm := by rw [hvm]; exact State.WarmedH.refl s
  have hat' : ∀ w ∈ nx_at own ic, w.before args s' = true := fun w hw => vx_ot_at hW0 hvm.symm (hgood w (List.mem_cons_of_mem _ (List.mem_cons_of_mem _ hw))) (hat w hw)
  have hk' : (Cond.classLink own ik nsE).before args s' = true := vx_ot_at hW0 hvm.symm (hgood _ List.mem_cons_self) hk
  have hini' : (Cond.initialized nsE).before args s' = true := vx_ot_at hW0 hvm.symm (hgood _ (List.mem_cons_of_mem _ List.mem_cons_self)) hini
  have hU' : vx_Zq Bundle.tN "UNASSIGNED_STACK" Bundle.steD A s' s'.heap := by rw [hhp]; exact vx_Zq.moved hW0.alike (hU.kept hS.2.1)
  have hN' : vx_Zq Bundle.tN "SUPPRESSED_SENTINEL" Bundle.listD A s' s'.heap := by rw [hhp]; exact vx_Zq.moved hW0.alike (hN.kept hS.2.1)
  have h : ∀ w ∈ nx_own own ic, w.before args s' = true := vx_own hat' (vx_isRefq hU'.1) (vx_isRefq hN'.1) hU'.2.word hN'.2.word
  have hown' : s'.vm.findClass own = some m.cls := by rw [hvm]; exact hown
  have hins : (Cond.instantiable nsE 6).before args s' = true := h _ (by simp [nx_own])
  obtain ⟨vm₁, cX, kX, hfX, hkX, -, -, X₁, st1⟩ := Y.newCold hexec (own := own) (C := nsE) (index := ik) (n := 6) hown' hk' hins hini'
    (g := F0 m pc ls rest) rfl (by rw [hb]; exact d0) (Nat.le_refl _) (Nat.le_refl _)
  generalize hT1 : (T.setVm vm₁).pushCell { cls := cX, slots := kX.instanceTypes.map defaultValue, vm := .none } = T1 at X₁ st1
  have hcat : (Value.ref T.heap.size).category = 1 := rfl
  have hcellA : T1.heap[T.heap.size]? = some (freshCell cX kX) := by rw [← hT1]; exact State.heap_pushCell_size _ _
  have d3' : decode c.code (pc + 3) = .ok (.dup, 1) := by rw [hb]; exact d3
  have d4' : decode c.code (pc + 4) = .ok (.ldc_w is, 3) := by rw [hb]; exact d4
  have hstr' : vk_R own is text sa s' := vk_R.warm hW0 hstr
  obtain ⟨U, hsteps, hrun, hend, hW, hsame, ce, hce, hO1, hO2⟩ := nx_ctor X₁ hexec htr (own := own) (ic := ic) hown' h (fun x hx => nomatch hx) hfX hkX hcellA (by rw [hhp, hT]; exact Nat.le_refl _) (msg := .ref sa) rfl
    (g := { method := m, pc := pc + 7, locals := ls, stack := .ref sa :: .ref T.heap.size :: .ref T.heap.size :: rest, locked := none }) rfl hsize rfl rfl (rest := rest) rfl
    (by rw [hb]; exact d7) (by rw [hb]; exact d10) hout hRframes (by simp only [List.map_cons, List.sum_cons, hcat]; omega) hlocks
  obtain ⟨f1, f2⟩ := vx_frame hsame
  rw [hhp] at f1 f2
  have hWs : s.WarmedH U.vm := State.WarmedH.trans hW0 hW
  have hcl : s.vm.findClass nsE = some ce.cls := by
    have h9 := hO1
    rw [hvm] at h9
    exact h9
  have hall : s.sameButNew ({ U with vm := s.vm } : State) locs mc ms := by
    subst hA
    obtain ⟨e1, e2⟩ := hsame
    rw [State.setFrames_setFrames] at e1
    have h2 : (T.setVm s.vm).sameButNew ({ U with vm := s.vm } : State) [] (0 + 1) (0 + 6) := ⟨e1, e2⟩
    have h3 := X.same.trans h2
    rw [List.append_nil] at h3
    exact h3.mono hc hs
  refine ⟨U, ?_, .threw T.heap.size, hrun, hend, Or.inr ⟨T.heap.size, rfl, nsE, ce, locs, hx U hWs.alike f1 (fun q hq => f2 q hq (fun z hz => nomatch hz)), hce, hO2, hcl, hWs, hall, hf⟩⟩
  refine st1 _ ?_
  show Steps p.tables e below (T1.setTop { method := m, pc := pc + 3, locals := ls, stack := .ref T.heap.size :: rest, locked := none }) _
  jvm_step X₁.here [X₁.here.top, hexec, d3', Value.category]
  exact X₁.ldcStringW hexec (own := own) (text := text) (index := is) (a := sa) hown' hstr'.1 hstr'.2
    (g := { method := m, pc := pc + 4, locals := ls, stack := .ref T.heap.size :: .ref T.heap.size :: rest, locked := none }) rfl d4' _ hsteps

end Nx
def nxOK (ik ic : Nat) : Prop := ∀ w ∈ Cond.classLink RX11 ik nsE :: Cond.initialized nsE :: nx_at RX11 ic, (w ∈ lw_tbl ∧ okW w = true) ∧ vx_ot w = true
section More69
variable {G : GT} {Y : YT} {d U u : Nat} {K : List Value → Mem → Prop} {X : String → Mem → Prop} {pc : Nat} {lv : List (Nat × Value)} {st : List Value} {M : Mem}
theorem ev_nthrowS {text : String} {ik is ic : Nat} (hY : (yN Y).cls = RX11) (hh : yH Y = []) (hat : nxOK ik ic) (hstr : Cond.stringRef RX11 is text ∈ lw_tbl)
    (d0 : decode (yC Y) pc = .ok (.new ik, 3)) (d3 : decode (yC Y) (pc + 3) = .ok (.dup, 1)) (d4 : decode (yC Y) (pc + 4) = .ok (.ldc is, 2)) (d6 : decode (yC Y) (pc + 6) = .ok (.invokespecial ic, 3)) (d9 : decode (yC Y) (pc + 9) = .ok (.athrow, 1))
    (hfr : 8 ≤ d) (hu : u + 1 ≤ U) (hst : (st.map fun v => v.category).sum ≤ 8) (hx : X nsE M) : Ex G Y d U K X u pc lv st M := by
  intro p e s m args below meth c H locs ls cells slots C hl hs hS hc hn
  have hV := C.2.2.2.2.2.2.2.1
  obtain ⟨sa, hsa⟩ := hV.1.2.2.2.2.1 _ _ _ hstr
  have hb : ∀ w ∈ Cond.classLink RX11 ik nsE :: Cond.initialized nsE :: nx_at RX11 ic, w.before args s = true := fun w hw => okW_before hV C.2.2.2.2.1 (hat w hw).1.1 (hat w hw).1.2
  refine nx_throwS (own := RX11) (A := AG G) C.1 C.2.1 hV.1.2.1 (by rw [← hY]; exact C.2.2.2.1) (hb _ List.mem_cons_self) (hb _ (List.mem_cons_of_mem _ List.mem_cons_self)) (vk_R.warm hV.2.1 hsa) (fun w hw => hb w (List.mem_cons_of_mem _ (List.mem_cons_of_mem _ hw))) (fun w hw => (hat w hw).2)
    (hV.Zq hV.1.2.2.1.1) (hV.Zq hV.1.2.2.1.2) hS (hl.1.trans C.2.2.1.symm) d0 d3 d4 d6 d9 (fun x hx9 => ?_) ?_ ?_ ?_ ?_ C.2.2.2.2.2.2.1 (fun t _ h1 h2 => ⟨⟨M, hx, hs.kept h2⟩, ⟨Nat.le_trans hS.1 h1, fun q q1 q2 => (h2 q (Nat.lt_of_lt_of_le q1 hS.1)).trans (hS.2.1 q q1 q2)⟩⟩) hS.2.2 (by omega) (by omega)
  · rw [C.2.2.2.2.2.2.2.2, hh] at hx9
    exact absurd hx9 (by show x ∉ tableOf []; exact List.not_mem_nil)
  · show 2 + 3 < d
    omega
  · show _ + (13 * (2 + 1) + 43) ≤ 46 * d
    omega
  · show cells + 1 ≤ U
    omega
  · show slots + 6 ≤ 6 * U
    omega

theorem ev_nthrowSW {text : String} {ik is ic : Nat} (hY : (yN Y).cls = RX11) (hh : yH Y = []) (hat : nxOK ik ic) (hstr : Cond.stringRef RX11 is text ∈ lw_tbl)
    (d0 : decode (yC Y) pc = .ok (.new ik, 3)) (d3 : decode (yC Y) (pc + 3) = .ok (.dup, 1)) (d4 : decode (yC Y) (pc + 4) = .ok (.ldc_w is, 3)) (d6 : decode (yC Y) (pc + 7) = .ok (.invokespecial ic, 3)) (d9 : decode (yC Y) (pc + 10) = .ok (.athrow, 1))
    (hfr : 8 ≤ d) (hu : u + 1 ≤ U) (hst : (st.map fun v => v.category).sum ≤ 8) (hx : X nsE M) : Ex G Y d U K X u pc lv st M := by
  intro p e s m args below meth c H locs ls cells slots C hl hs hS hc hn
  have hV := C.2.2.2.2.2.2.2.1
  obtain ⟨sa, hsa⟩ := hV.1.2.2.2.2.1 _ _ _ hstr
  have hb : ∀ w ∈ Cond.classLink RX11 ik nsE :: Cond.initialized nsE :: nx_at RX11 ic, w.before args s = true := fun w hw => okW_before hV C.2.2.2.2.1 (hat w hw).1.1 (hat w hw).1.2
  refine nx_throwSW (own := RX11) (A := AG G) C.1 C.2.1 hV.1.2.1 (by rw [← hY]; exact C.2.2.2.1) (hb _ List.mem_cons_self) (hb _ (List.mem_cons_of_mem _ List.mem_cons_self)) (vk_R.warm hV.2.1 hsa) (fun w hw => hb w (List.mem_cons_of_mem _ (List.mem_cons_of_mem _ hw))) (fun w hw => (hat w hw).2)
    (hV.Zq hV.1.2.2.1.1) (hV.Zq hV.1.2.2.1.2) hS (hl.1.trans C.2.2.1.symm) d0 d3 d4 d6 d9 (fun x hx9 => ?_) ?_ ?_ ?_ ?_ C.2.2.2.2.2.2.1 (fun t _ h1 h2 => ⟨⟨M, hx, hs.kept h2⟩, ⟨Nat.le_trans hS.1 h1, fun q q1 q2 => (h2 q (Nat.lt_of_lt_of_le q1 hS.1)).trans (hS.2.1 q q1 q2)⟩⟩) hS.2.2 (by omega) (by omega)
  · rw [C.2.2.2.2.2.2.2.2, hh] at hx9
    exact absurd hx9 (by show x ∉ tableOf []; exact List.not_mem_nil)
  · show 2 + 3 < d
    omega
  · show _ + (13 * (2 + 1) + 43) ≤ 46 * d
    omega
  · show cells + 1 ≤ U
    omega
  · show slots + 6 ≤ 6 * U
    omega

end More69
theorem nx_put {own : String} {ic : Nat} : ∃ c : List Cond, nx_own own ic = exT ++ c := ⟨_, (List.append_assoc _ _ _).trans ((List.append_assoc _ _ _).trans (List.append_assoc _ _ _))⟩
theorem nx_B : ((Cond.classLink RX11 201 nsE :: Cond.initialized nsE :: nx_at RX11 205)).all exP = true := ex_put nx_put (by decide +kernel) rfl
theorem nx_OK : nxOK 201 205 := fun w hw => by
  have h := List.all_eq_true.mp nx_B w hw
  simp only [exP, Bool.and_eq_true, decide_eq_true_eq] at h
  exact h
theorem thrX11_actual_29 {G : GT} {K : List Value → Mem → Prop} {X : String → Mem → Prop} {u : Nat} {lv : List (Nat × Value)} {M : Mem} (hu : u + 1 ≤ 2) (h : X "java/util/NoSuchElementException" M) : Ex G zX11_actual 9 2 K X u 29 lv [] M :=
  ev_nthrowS (text := "the stop is not on its way") rfl rfl nx_OK (List.mem_of_getElem? (i := 927) (tb4 120 (by decide +kernel) rfl)) dX11_actual_29 dX11_actual_32 dX11_actual_33 dX11_actual_35 dX11_actual_38 (by decide) hu (by decide) h
theorem thrX11_actual_87 {G : GT} {K : List Value → Mem → Prop} {X : String → Mem → Prop} {u : Nat} {lv : List (Nat × Value)} {M : Mem} (hu : u + 1 ≤ 2) (h : X "java/util/NoSuchElementException" M) : Ex G zX11_actual 9 2 K X u 87 lv [] M :=
  ev_nthrowSW (text := "there is no such time in the run") rfl rfl nx_OK (List.mem_of_getElem? (i := 1243) (tb5 196 (by decide +kernel) rfl)) dX11_actual_87 dX11_actual_90 dX11_actual_91 dX11_actual_94 dX11_actual_97 (by decide) hu (by decide) h
theorem thrX11_delay_36 {G : GT} {K : List Value → Mem → Prop} {X : String → Mem → Prop} {u : Nat} {lv : List (Nat × Value)} {M : Mem} (hu : u + 1 ≤ 2) (h : X "java/util/NoSuchElementException" M) : Ex G zX11_delay 9 2 K X u 36 lv [] M :=
  ev_nthrowSW (text := "the trip does not arrive") rfl rfl nx_OK (List.mem_of_getElem? (i := 1259) (tb5 212 (by decide +kernel) rfl)) dX11_delay_36 dX11_delay_39 dX11_delay_40 dX11_delay_43 dX11_delay_46 (by decide) hu (by decide) h
theorem thrX11_duty_34 {G : GT} {K : List Value → Mem → Prop} {X : String → Mem → Prop} {u : Nat} {lv : List (Nat × Value)} {M : Mem} (hu : u + 1 ≤ 2) (h : X "java/util/NoSuchElementException" M) : Ex G zX11_duty 9 2 K X u 34 lv [] M :=
  ev_nthrowSW (text := "no such position") rfl rfl nx_OK (List.mem_of_getElem? (i := 1132) (tb5 85 (by decide +kernel) rfl)) dX11_duty_34 dX11_duty_37 dX11_duty_38 dX11_duty_41 dX11_duty_44 (by decide) hu (by decide) h
theorem thrX11_headway_35 {G : GT} {K : List Value → Mem → Prop} {X : String → Mem → Prop} {u : Nat} {lv : List (Nat × Value)} {M : Mem} (hu : u + 1 ≤ 3) (h : X "java/util/NoSuchElementException" M) : Ex G zX11_headway 9 3 K X u 35 lv [] M :=
  ev_nthrowS (text := "no headway") rfl rfl nx_OK (List.mem_of_getElem? (i := 993) (tb4 186 (by decide +kernel) rfl)) dX11_headway_35 dX11_headway_38 dX11_headway_39 dX11_headway_41 dX11_headway_44 (by decide) hu (by decide) h
theorem thrX11_leaving_32 {G : GT} {K : List Value → Mem → Prop} {X : String → Mem → Prop} {u : Nat} {lv : List (Nat × Value)} {M : Mem} (hu : u + 1 ≤ 2) (h : X "java/util/NoSuchElementException" M) : Ex G zX11_leaving 9 2 K X u 32 lv [] M :=
  ev_nthrowSW (text := "no such index") rfl rfl nx_OK (List.mem_of_getElem? (i := 1173) (tb5 126 (by decide +kernel) rfl)) dX11_leaving_32 dX11_leaving_35 dX11_leaving_36 dX11_leaving_39 dX11_leaving_42 (by decide) hu (by decide) h
theorem thrX11_nextTrip_28 {G : GT} {K : List Value → Mem → Prop} {X : String → Mem → Prop} {u : Nat} {lv : List (Nat × Value)} {M : Mem} (hu : u + 1 ≤ 2) (h : X "java/util/NoSuchElementException" M) : Ex G zX11_nextTrip 9 2 K X u 28 lv [] M :=
  ev_nthrowSW (text := "no trip can follow") rfl rfl nx_OK (List.mem_of_getElem? (i := 1360) (tb6 73 (by decide +kernel) rfl)) dX11_nextTrip_28 dX11_nextTrip_31 dX11_nextTrip_32 dX11_nextTrip_35 dX11_nextTrip_38 (by decide) hu (by decide) h
theorem thrX11_passage_39 {G : GT} {K : List Value → Mem → Prop} {X : String → Mem → Prop} {u : Nat} {lv : List (Nat × Value)} {M : Mem} (hu : u + 1 ≤ 3) (h : X "java/util/NoSuchElementException" M) : Ex G zX11_passage 9 3 K X u 39 lv [] M :=
  ev_nthrowS (text := "no such passage") rfl rfl nx_OK (List.mem_of_getElem? (i := 974) (tb4 167 (by decide +kernel) rfl)) dX11_passage_39 dX11_passage_42 dX11_passage_43 dX11_passage_45 dX11_passage_48 (by decide) hu (by decide) h
theorem thrX11_planned_29 {G : GT} {K : List Value → Mem → Prop} {X : String → Mem → Prop} {u : Nat} {lv : List (Nat × Value)} {M : Mem} (hu : u + 1 ≤ 2) (h : X "java/util/NoSuchElementException" M) : Ex G zX11_planned 9 2 K X u 29 lv [] M :=
  ev_nthrowS (text := "the stop is not on its way") rfl rfl nx_OK (List.mem_of_getElem? (i := 927) (tb4 120 (by decide +kernel) rfl)) dX11_planned_29 dX11_planned_32 dX11_planned_33 dX11_planned_35 dX11_planned_38 (by decide) hu (by decide) h
theorem thrX11_refusal_8 {G : GT} {K : List Value → Mem → Prop} {X : String → Mem → Prop} {u : Nat} {lv : List (Nat × Value)} {M : Mem} (hu : u + 1 ≤ 1) (h : X "java/util/NoSuchElementException" M) : Ex G zX11_refusal 8 1 K X u 8 lv [] M :=
  ev_nthrowSW (text := "none was refused") rfl rfl nx_OK (List.mem_of_getElem? (i := 1095) (tb5 48 (by decide +kernel) rfl)) dX11_refusal_8 dX11_refusal_11 dX11_refusal_12 dX11_refusal_15 dX11_refusal_18 (by decide) hu (by decide) h
theorem thrX11_take_31 {G : GT} {K : List Value → Mem → Prop} {X : String → Mem → Prop} {u : Nat} {lv : List (Nat × Value)} {M : Mem} (hu : u + 1 ≤ 2) (h : X "java/util/NoSuchElementException" M) : Ex G zX11_take 9 2 K X u 31 lv [] M :=
  ev_nthrowSW (text := "the vehicle has no duty") rfl rfl nx_OK (List.mem_of_getElem? (i := 1111) (tb5 64 (by decide +kernel) rfl)) dX11_take_31 dX11_take_34 dX11_take_35 dX11_take_38 dX11_take_41 (by decide) hu (by decide) h
