/-! ===== calls, returns ===== -/
def rmD (d u : Nat) : Room := { frames := d, cells := u, slots := 6 * u, locals := 46 * d }
def QcN (G : GT) (K : List Value → Mem → Prop) : Array Value → State → Outcome → State → Prop := fun _ st oc t => (∃ (v : Option Value) (M' : Mem), oc = .returned v ∧ K v.toList M' ∧ Sim G M' t.heap) ∧ va_F (AG G) st t
def XcN (G : GT) (X : String → Mem → Prop) : String → State → State → Prop := fun E st t => (∃ M' : Mem, X E M' ∧ Sim G M' t.heap) ∧ va_F (AG G) st t
def ZX (G : GT) (u : Nat) (K : List Value → Mem → Prop) (X : String → Mem → Prop) : ZT := fun below args s => vx_MQ below (QcN G K) (XcN G X) args s u (6 * u) (AG G)
def noX : String → Mem → Prop := fun _ _ => False
def PcN (G : GT) (args : List Value) (M : Mem) : Array Value → State → Prop := va_Pc args (fun U => GV G U ∧ Sim G M U.heap)
def Call (G : GT) (d u : Nat) (Y : YT) (args : List Value) (M : Mem) (K : List Value → Mem → Prop) (X : String → Mem → Prop) : Prop :=
  vx_Met (lG G) (yN Y) (wsY Y) (rmD d u) (PcN G args M) (QcN G K) (XcN G X) u (6 * u) (AG G)
def kI (f : Int → Mem → Prop) : List Value → Mem → Prop := fun r M => ∃ x : Int, r = [iv x] ∧ f x M
def kD (f : UInt64 → Mem → Prop) : List Value → Mem → Prop := fun r M => ∃ x : UInt64, r = [.double x] ∧ f x M
def kV (f : Mem → Prop) : List Value → Mem → Prop := fun r M => r = [] ∧ f M
theorem kI_mk {f : Int → Mem → Prop} {x : Int} {M : Mem} (h : f x M) : kI f [iv x] M := ⟨x, rfl, h⟩
theorem kD_mk {f : UInt64 → Mem → Prop} {x : UInt64} {M : Mem} (h : f x M) : kD f [.double x] M := ⟨x, rfl, h⟩
theorem kV_mk {f : Mem → Prop} {M : Mem} (h : f M) : kV f [] M := ⟨rfl, h⟩
abbrev Ex (G : GT) (Y : YT) (d U : Nat) (K : List Value → Mem → Prop) (X : String → Mem → Prop) (u pc : Nat) (lv : List (Nat × Value)) (st : List Value) (M : Mem) : Prop := Ev G Y (rmD d U) u (ZX G U K X) pc lv st M
theorem GV.at {G : GT} {s : State} {H : Heap} {locs : List Loc} (h : GV G s) (hS : va_S (AG G) s.heap H locs) {U : State} (hU : U.heap = H) (hW : s.WarmedH U.vm) : GV G U :=
  ⟨h.1, State.WarmedH.trans h.2.1 hW, by rw [hU]; exact Nat.le_trans h.2.2.1 hS.1, fun q hq => by
    rw [hU, hS.2.1 q (Nat.lt_of_lt_of_le hq h.2.2.1) (fun z => absurd hq (Nat.not_lt.mpr z))]
    exact h.2.2.2 q hq⟩
theorem PcN_blind {G : GT} {args : List Value} {M : Mem} : FrameBlind (PcN G args M) := fun a U g mk h => ⟨h.1, ⟨h.2.1.1, h.2.1.2.1, h.2.1.2.2.1, h.2.1.2.2.2⟩, h.2.2⟩
section Calls9
variable {G : GT} {Y : YT} {d U u : Nat} {K : List Value → Mem → Prop} {X : String → Mem → Prop} {pc : Nat} {lv : List (Nat × Value)} {st : List Value} {M : Mem}
/-- the body gives the contract -/
theorem call_intro {args : List Value} (hy : plainName (yN Y).cls = true) (hh : yH Y = []) (hlen : (lg_sl args).length ≤ yL Y) (hlv : lv_args 0 args = lv) (k : Ex G Y d U K X 0 0 lv [] M) : Call G d U Y args M K X := by
  refine vx_ofW (cc := yC Y) (maxL := yL Y) (ret := yR Y) hy rfl ?_
  intro p e s m args0 below meth c s₁ B hml htab hP
  obtain ⟨rfl, hV, hs⟩ := hP
  have hts : ∀ w ∈ lw_all, w.before args.toArray s = true := fun w h => atoms_spec (ws := wsY Y) B.pre w (List.mem_cons_of_mem _ h)
  have htl : c.exceptionTable.toList = tableOf (yH Y) := by
    rw [hh]
    cases hq : c.exceptionTable.toList with
    | nil => rfl
    | cons x l => exact (htab x (by rw [hq]; exact List.mem_cons_self)).elim
  have hl := lv_entry args (n := yL Y) hlen
  rw [hlv] at hl
  rw [lg_entry_eq]
  exact k p e s m args.toArray below meth c s.heap [] _ 0 0 ⟨B.exec, B.bytes, hml, findClass_of_methodNamed B.named, hts, B.returns, B.notSynchronized, hV, htl⟩ hl hs va_S.rf (Nat.zero_le _) (Nat.zero_le _)
/-- the ends -/
theorem ret_of {s : State} {args : Array Value} {H : Heap} {locs : List Loc} {v : Option Value} (hk : K v.toList M) (hs : Sim G M H) (hS : va_S (AG G) s.heap H locs) : ∀ t : State, t.heap = H → s.WarmedH t.vm → QcN G K args s (.returned v) t :=
  fun t ht _ => ⟨⟨v, M, rfl, hk, by rw [ht]; exact hs⟩, hS.F ht⟩
theorem ev_iret {a : Int} (dd : decode (yC Y) pc = .ok (.ireturn, 1)) (hu : u ≤ U) (hr : yR Y = some .int) (hk : K [iv a] M) : Ex G Y d U K X u pc lv [iv a] M := by
  intro p e s m args below meth c H locs ls cells slots C hl hs hS hc hn
  refine W.widen (k := U) (n := 6 * U) (by omega) (by omega) (vx_ret ?_)
  exact W.iret C.1 C.2.1 (by rw [C.2.2.2.2.2.1, hr]) (ret_of (v := some (iv a)) hk hs hS) hS.2.2 dd C.2.2.2.2.2.2.1
theorem ev_zret {a : Int} (dd : decode (yC Y) pc = .ok (.ireturn, 1)) (hu : u ≤ U) (hr : yR Y = some .boolean) (h01 : a = 0 ∨ a = 1) (hk : K [iv a] M) : Ex G Y d U K X u pc lv [iv a] M := by
  intro p e s m args below meth c H locs ls cells slots C hl hs hS hc hn
  refine W.widen (k := U) (n := 6 * U) (by omega) (by omega) (vx_ret ?_)
  exact W.zret (ty := .boolean) C.1 C.2.1 (by rw [C.2.2.2.2.2.1, hr]) (by rcases h01 with rfl | rfl <;> rfl) (ret_of (v := some (iv a)) hk hs hS) hS.2.2 dd C.2.2.2.2.2.2.1
theorem ev_vret (dd : decode (yC Y) pc = .ok (.return_, 1)) (hu : u ≤ U) (hr : yR Y = none) (hk : K [] M) : Ex G Y d U K X u pc lv [] M := by
  intro p e s m args below meth c H locs ls cells slots C hl hs hS hc hn
  refine W.widen (k := U) (n := 6 * U) (by omega) (by omega) (vx_ret ?_)
  exact W.vret C.1 C.2.1 (by rw [C.2.2.2.2.2.1, hr]) (ret_of (v := none) hk hs hS) hS.2.2 dd C.2.2.2.2.2.2.1
theorem ev_dret {a : UInt64} (dd : decode (yC Y) pc = .ok (.dreturn, 1)) (hu : u ≤ U) (hr : yR Y = some .double) (hk : K [.double a] M) : Ex G Y d U K X u pc lv [.double a] M := by
  intro p e s m args below meth c H locs ls cells slots C hl hs hS hc hn
  refine W.widen (k := U) (n := 6 * U) (by omega) (by omega) (vx_ret ?_)
  exact W.dret C.1 C.2.1 (by rw [C.2.2.2.2.2.1, hr]) (ret_of (v := some (.double a)) hk hs hS) hS.2.2 dd C.2.2.2.2.2.2.1
/-- a callee's words, and what its descriptor says -/
def MFV (Y : YT) (n : Nat) : Prop := Cond.instanceMethod (yN Y) ∈ lw_all ∧ Cond.selects (yN Y).cls (yN Y) (yN Y) ∈ lw_all ∧ Cond.initialized (yN Y).cls ∈ lw_all ∧ Cond.code (yN Y) (yC Y) (yL Y) (yR Y) ∈ lw_all ∧
  ((yN Y).cls ≠ "java/lang/invoke/MethodHandle" ∧ (yN Y).cls ≠ "java/lang/invoke/VarHandle") ∧ (parseMethodDescriptor (yN Y).desc).map (fun d => d.parameters.length) = some n
def MFS (Y : YT) (n : Nat) : Prop := Cond.static (yN Y) ∈ lw_all ∧ Cond.initialized (yN Y).cls ∈ lw_all ∧ Cond.code (yN Y) (yC Y) (yL Y) (yR Y) ∈ lw_all ∧
  ((yN Y).cls ≠ "java/lang/invoke/MethodHandle" ∧ (yN Y).cls ≠ "java/lang/invoke/VarHandle") ∧ (parseMethodDescriptor (yN Y).desc).map (fun d => d.parameters.length) = some n
variable {Y' : YT} {d' u' n idx : Nat} {As : List Value} {K' : List Value → Mem → Prop} {X' : String → Mem → Prop}
/-- behind a run of a callee -/
theorem ev_run {p : Program} {e : Env} {s : State} {m : MethodId} {args : Array Value} {below : List Frame} {meth : Method} {c : Code} {H : Heap} {locs : List Loc} {ls : Array Slot} {cells slots : Nat} {st0 : List Value} {a9 : Array Value}
    (C : Cx G Y p s m args meth c) (hh : yH Y = []) (hl : lv_has ls (yL Y) lv) (hS : va_S (AG G) s.heap H locs) (hc : cells ≤ u) (hn : slots ≤ 6 * u) (hu : u + u' ≤ U)
    (hr : vx_Run p (lG G) e (rmD d U) s m args below meth c H locs cells slots u' (6 * u') (F0 m pc ls st0) st (QcN G K' a9) (XcN G X') (AG G))
    (hX : ∀ E M', X' E M' → X E M') (k : ∀ r M', K' r M' → Ex G Y d U K X (u + u') (pc + 3) lv (r ++ st) M') :
    W p (lG G) e (rmD d U) s m args below meth c H locs cells slots (ZX G U K X below args s) (F0 m pc ls st0) := by
  intro T hT X9
  rcases hr T hT X9 with ⟨v, st₀, t, T', L, h0, X', hL, e1, e2, ⟨⟨v', M', hv, hp, hb⟩, hF⟩, go⟩ | ⟨q, st₀, t, T', L, E, ce, h0, X', hL, e1, e2, ⟨⟨M', hp, hb⟩, hF⟩, hce, hcv, hcl, go⟩
  · cases hv
    obtain ⟨k1, k2, k3⟩ := vx_keep h0 e1 hS (fun q _ h => h) (fun q h => h) hL hF
    obtain ⟨t2, a1, b1⟩ := k _ M' hp p e s m args below meth c T'.heap (locs ++ L) ls (cells + u') (slots + 6 * u') C hl (by rw [e1]; exact hb) k3 (by omega) (by omega) T' rfl X'
    exact ⟨t2, go t2 a1, b1⟩
  · obtain ⟨k1, k2, k3⟩ := vx_keep h0 e1 hS (fun q _ h => h) (fun q h => h) hL hF
    have hw : vx_W p (lG G) e (rmD d U) s m args below meth c T'.heap (locs ++ L) (cells + u') (slots + 6 * u') (ZX G U K X below args s) (F0 m pc ls st) q := by
      refine vx_out (ce := ce) (E := E) (fun x hx => ?_) C.2.2.2.2.2.2.1 (by rw [e1]; exact hce) hcv hcl (fun t9 ht9 _ => ⟨⟨M', hX _ _ hp, by rw [ht9, e1]; exact hb⟩, k3.F ht9⟩) k3.2.2 (by omega) (by omega)
      rw [C.2.2.2.2.2.2.2.2, hh] at hx
      exact absurd hx (by show x ∉ tableOf []; exact List.not_mem_nil)
    obtain ⟨t2, a1, b1⟩ := hw T' rfl X'
    exact ⟨t2, go.trans a1, b1⟩
theorem ev_callV {ci : Nat} {a : Nat} {i o : Int} {fs : List Value} {q9 : vw_C} (mf : MFV Y' n) (ml : Cond.methodLink (yN Y).cls idx (yN Y') ∈ lw_all) (dd : decode (yC Y) pc = .ok (.invokevirtual idx, 3)) (hh : yH Y = []) (hdm : dom a i o) (he : entI G M a i o = .inr (ci, fs)) (hci : vwCl[ci]? = some q9) (hcq : q9.1 = (yN Y').cls)
    (hn : As.length = n) (hlv : d' + 1 ≤ d) (hmx : yL Y' ≤ 27) (hu : u + u' ≤ U) (hst : (st.map fun v => v.category).sum ≤ 8) (hX : ∀ E M', X' E M' → X E M') (hc : Call G d' u' Y' (rr G a i o :: As) M K' X')
    (k : ∀ r M', K' r M' → Ex G Y d U K X (u + u') (pc + 3) lv (r ++ st) M') : Ex G Y d U K X u pc lv (As.reverse ++ rr G a i o :: st) M := by
  intro p e s m args below meth c H locs ls cells slots C hl hs hS hc9 hn9
  obtain ⟨g1, g2, g3, g4, g5, g6⟩ := mf
  refine ev_run C hh hl hS hc9 hn9 hu (vx_runV (As := As) (rest := st) (b := ad G a i o) ⟨C.1, C.2.1, C.2.2.1, C.2.2.2.1, C.2.2.2.2.1⟩ hc (cwV n C.2.2.2.2.1 (C := (yN Y').cls) (own := (yN Y).cls) (index := idx) (all_in ?_) rfl rfl rfl ⟨rfl, g5.1, g5.2, g6⟩ ⟨hlv, ?_⟩) ⟨PcN_blind, ?_, fun U9 hU hW => ⟨rfl, C.2.2.2.2.2.2.2.1.at hS hU hW, by rw [hU]; exact hs⟩⟩ rfl hn hl.1 rfl (lv_room hst) dd ⟨?_, ?_⟩) hX k
  · intro w hw
    simp only [wsV, wsY, List.cons_append, List.nil_append, List.mem_cons] at hw
    rcases hw with rfl | rfl | rfl | rfl | rfl | hw
    · exact ml
    · exact g1
    · exact g2
    · exact g3
    · exact g4
    · exact hw
  · show 8 + (yL Y' + 11) + 46 * d' ≤ 46 * d
    omega
  · have h9 := va_recv C.2.2.2.2.2.2.2.1.K hs hci ((wd_at hdm).trans (by rw [he]))
    rw [hcq] at h9
    exact h9
  · show cells + u' ≤ U
    omega
  · show slots + 6 * u' ≤ 6 * U
    omega
theorem ev_callS (mf : MFS Y' n) (ml : Cond.methodLink (yN Y).cls idx (yN Y') ∈ lw_all) (dd : decode (yC Y) pc = .ok (.invokestatic idx, 3)) (hh : yH Y = [])
    (hn : As.length = n) (hlv : d' + 1 ≤ d) (hmx : yL Y' ≤ 27) (hu : u + u' ≤ U) (hst : (st.map fun v => v.category).sum ≤ 8) (hX : ∀ E M', X' E M' → X E M') (hc : Call G d' u' Y' As M K' X')
    (k : ∀ r M', K' r M' → Ex G Y d U K X (u + u') (pc + 3) lv (r ++ st) M') : Ex G Y d U K X u pc lv (As.reverse ++ st) M := by
  intro p e s m args below meth c H locs ls cells slots C hl hs hS hc9 hn9
  obtain ⟨g1, g3, g4, g5, g6⟩ := mf
  refine ev_run C hh hl hS hc9 hn9 hu (vx_runS (As := As) (rest := st) ⟨C.1, C.2.1, C.2.2.1, C.2.2.2.1, C.2.2.2.2.1⟩ hc (va_cwS n C.2.2.2.2.1 (own := (yN Y).cls) (index := idx) (all_in ?_) rfl rfl rfl ⟨g5.1, g5.2, g6⟩ ⟨hlv, ?_⟩) ⟨PcN_blind, fun U9 hU hW => ⟨rfl, C.2.2.2.2.2.2.2.1.at hS hU hW, by rw [hU]; exact hs⟩⟩ rfl hn hl.1 rfl (lv_room hst) dd ⟨?_, ?_⟩) hX k
  · intro w hw
    simp only [va_wsS, wsY, List.cons_append, List.nil_append, List.mem_cons] at hw
    rcases hw with rfl | rfl | rfl | rfl | hw
    · exact ml
    · exact g1
    · exact g3
    · exact g4
    · exact hw
  · show 8 + (yL Y' + 11) + 46 * d' ≤ 46 * d
    omega
  · show cells + u' ≤ U
    omega
  · show slots + 6 * u' ≤ 6 * U
    omega
/-- no throw: a contract of the kit's plain form -/
theorem Call.met {args : List Value} (h : Call G d u Y args M K noX) : Met (lG G) (yN Y) (wsY Y) (rmD d u) (PcN G args M) (QcN G K) u (6 * u) (AG G) := by
  intro p e ha hf hk s m a below h1 h2 h3 h4
  obtain ⟨n, o, g1, g2, g3, g4⟩ := h p e ha hf hk s m a below h1 h2 h3 h4
  refine ⟨n, o, g1, g2, g3, ?_⟩
  rcases g4 with g4 | ⟨q, -, E, ce, L, ⟨⟨M', hx, -⟩, -⟩, -⟩
  · exact g4
  · exact hx.elim
/-- a private static method of the nest's host -/
theorem ev_callSN (host : String) (mf : MFS Y' n) (ml : Cond.methodLinkNest (yN Y).cls idx (yN Y') host ∈ lw_tbl) (dd : decode (yC Y) pc = .ok (.invokestatic idx, 3)) (hh : yH Y = [])
    (hn : As.length = n) (hlv : d' + 1 ≤ d) (hmx : yL Y' ≤ 27) (hu : u + 0 ≤ U) (hst : (st.map fun v => v.category).sum ≤ 8) (hc : Call G d' 0 Y' As M K' noX)
    (k : ∀ r M', K' r M' → Ex G Y d U K X (u + 0) (pc + 3) lv (r ++ st) M') : Ex G Y d U K X u pc lv (As.reverse ++ st) M := by
  intro p e s m args below meth c H locs ls cells slots C hl hs hS hc9 hn9
  obtain ⟨g1, g3, g4, g5, g6⟩ := mf
  have hr := va_runSN (meth := meth) (g := F0 m pc ls (As.reverse ++ st)) (cells := cells) (slots := slots) (R := rmD d U) (below := below) (e := e) (locs := locs) (H := H) (l := lG G) (As := As) (rest := st) (host := host) ⟨C.1, C.2.1, C.2.2.1, C.2.2.2.1, C.2.2.2.2.1⟩ hc.met ⟨va_cnB n C.2.2.2.2.1 (own := (yN Y).cls) (index := idx) (host := host) (all_in (ws := wsY Y') ?_) rfl rfl rfl (va_Nw.warmM C.2.2.2.2.2.2.2.1.2.1 (C.2.2.2.2.2.2.2.1.1.2.2.2.1 _ ml rfl)) (C.2.2.2.2.1 _ g3) ⟨g5.1, g5.2, g6⟩ ⟨hlv, ?_⟩, C.2.2.2.2.1 _ g1, trivial⟩ ⟨PcN_blind, fun U9 hU hW => ⟨rfl, C.2.2.2.2.2.2.2.1.at hS hU hW, by rw [hU]; exact hs⟩⟩ rfl hn hl.1 rfl (lv_room hst) dd ⟨?_, ?_⟩
  · refine ev_run (u' := 0) (X' := noX) (a9 := As.toArray) C hh hl hS hc9 hn9 hu ?_ (fun E M' h => h.elim) k
    intro T hT X9
    exact Or.inl (hr T hT X9)
  · intro w hw
    simp only [wsY, List.mem_cons] at hw
    rcases hw with rfl | hw
    · exact g4
    · exact hw
  · show 8 + (yL Y' + 11) + 46 * d' ≤ 46 * d
    omega
  · show cells + 0 ≤ U
    omega
  · show slots + 6 * 0 ≤ 6 * U
    omega
/-- Math.max, Math.min -/
theorem ev_max {a b : Int} (ml : Cond.methodLink (yN Y).cls idx Lib.Math.max.name ∈ lw_all) (w1 : Cond.static Lib.Math.max.name ∈ lw_all) (w2 : Cond.initialized "java/lang/Math" ∈ lw_all) (w3 : Cond.code Lib.Math.max.name Lib.Math.max.code 2 (some .int) ∈ lw_all) (dd : decode (yC Y) pc = .ok (.invokestatic idx, 3))
    (hd : 1 ≤ d) (hu : u ≤ U) (hst : (st.map fun v => v.category).sum ≤ 8) (ha : I32 a) (hb : I32 b) (k : Ex G Y d U K X u (pc + 3) lv (iv (max a b) :: st) M) : Ex G Y d U K X u pc lv (iv b :: iv a :: st) M := by
  intro p e s m args below meth c H locs ls cells slots C hl hs hS hc9 hn9
  refine va_mmax C.1 C.2.1 (C.2.2.1.trans hl.1.symm) C.2.2.2.1 (C.2.2.2.2.1 _ ml) (C.2.2.2.2.1 _ w1) (C.2.2.2.2.1 _ w2) (C.2.2.2.2.1 _ w3) hd (by show _ ≤ 46 * d; omega) (by show cells ≤ U; omega) (by show slots ≤ 6 * U; omega) dd ?_
  have e9 : (if J a < J b then J b else J a) = J (max a b) := by
    by_cases h : a < b
    · rw [if_pos ((J_lt ha hb).mpr h), Int.max_eq_right (by omega)]
    · rw [if_neg (mt (J_lt ha hb).mp h), Int.max_eq_left (by omega)]
  rw [e9]
  exact k p e s m args below meth c H locs ls cells slots C hl hs hS hc9 hn9
theorem ev_min {a b : Int} (ml : Cond.methodLink (yN Y).cls idx Lib.Math.min.name ∈ lw_all) (w1 : Cond.static Lib.Math.min.name ∈ lw_all) (w2 : Cond.initialized "java/lang/Math" ∈ lw_all) (w3 : Cond.code Lib.Math.min.name Lib.Math.min.code 2 (some .int) ∈ lw_all) (dd : decode (yC Y) pc = .ok (.invokestatic idx, 3))
    (hd : 1 ≤ d) (hu : u ≤ U) (hst : (st.map fun v => v.category).sum ≤ 8) (ha : I32 a) (hb : I32 b) (k : Ex G Y d U K X u (pc + 3) lv (iv (min a b) :: st) M) : Ex G Y d U K X u pc lv (iv b :: iv a :: st) M := by
  intro p e s m args below meth c H locs ls cells slots C hl hs hS hc9 hn9
  refine va_mmin C.1 C.2.1 (C.2.2.1.trans hl.1.symm) C.2.2.2.1 (C.2.2.2.2.1 _ ml) (C.2.2.2.2.1 _ w1) (C.2.2.2.2.1 _ w2) (C.2.2.2.2.1 _ w3) hd (by show _ ≤ 46 * d; omega) (by show cells ≤ U; omega) (by show slots ≤ 6 * U; omega) dd ?_
  have e9 : (if J b < J a then J b else J a) = J (min a b) := by
    by_cases h : b < a
    · rw [if_pos ((J_lt hb ha).mpr h), Int.min_eq_right (by omega)]
    · rw [if_neg (mt (J_lt hb ha).mp h), Int.min_eq_left (by omega)]
  rw [e9]
  exact k p e s m args below meth c H locs ls cells slots C hl hs hS hc9 hn9
/-- System.arraycopy of ints -/
def cpy (f g : Int → Int) (sp dp n : Int) : Int → Int := fun k => if dp ≤ k ∧ k < dp + n then f (sp + (k - dp)) else g k
theorem ev_copy {a0 a n0 n1 : Nat} {i0 o0 i o sp dp n : Int} (ml : Cond.methodLink (yN Y).cls idx arraycopyName ∈ lw_all) (w1 : Cond.native arraycopyName ∈ lw_all) (w2 : Cond.static arraycopyName ∈ lw_all) (w3 : Cond.initialized "java/lang/System" ∈ lw_all) (dd : decode (yC Y) pc = .ok (.invokestatic idx, 3))
    (hd : 1 ≤ d) (hst : (st.map fun v => v.category).sum ≤ 8) (hda : dom a0 i0 o0) (hdb : dom a i o) (hea : ∀ r, entR G a0 i0 o0.toNat r = aI (cyG G 0) n0 r) (heb : ∀ r, entR G a i o.toNat r = aI (cyG G 0) n1 r) (hm0 : n0 ≤ 100000) (hm1 : n1 ≤ 100000)
    (h1 : 0 ≤ sp) (h2 : 0 ≤ dp) (h3 : 0 ≤ n) (h4 : sp + n ≤ n0) (h5 : dp + n ≤ n1) (k : Ex G Y d U K X u (pc + 3) lv st (wrow M a i o (cpy (M a0 i0 o0) (M a i o) sp dp n))) : Ex G Y d U K X u pc lv (iv n :: iv dp :: rr G a i o :: iv sp :: rr G a0 i0 o0 :: st) M := by
  intro p e s m args below meth c H locs ls cells slots C hl hs hS hc9 hn9
  have b1 : I32 sp := by unfold I32; omega
  have b2 : I32 dp := by unfold I32; omega
  have b3 : I32 n := by unfold I32; omega
  have z : (0 : Int32) = J 0 := rfl
  refine va_copyi C.1 C.2.1 (C.2.2.1.trans hl.1.symm) C.2.2.2.1 (C.2.2.2.2.1 _ ml) (C.2.2.2.2.1 _ w1) (C.2.2.2.2.1 _ w2) (C.2.2.2.2.1 _ w3) C.2.2.2.2.2.2.2.1.K hs wd_D hS (off a0 i0 o0) (off a i o) 0 0 ((wd_at hda).trans (by unfold entI; rw [hea])) ((wd_at hdb).trans (by unfold entI; rw [heb])) rfl rfl rfl (by rw [z, J_lt b1 I32_0]; omega) (by rw [z, J_lt b2 I32_0]; omega) (by rw [z, J_lt b3 I32_0]; omega) (by rw [J_clamp b1, J_clamp b3]; omega) (by rw [J_clamp b2, J_clamp b3]; omega) (fun _ _ => rfl) hd ?_ dd (fun H1 locs1 hP hD hS => ?_)
  · have e9 : nativeFrameWords "java/lang/System" "arraycopy" 5 + 11 ≤ 38 := by decide +kernel
    show _ ≤ 46 * d
    omega
  · have e9 : (Sum.inl (cyG G 0, n1, Sum.inl (va_cpy (fun q : Nat => J (M a0 i0 o0 (q : Int))) (fun q : Nat => J (M a i o (q : Int))) (J sp).toNatClampNeg (J dp).toNatClampNeg (J n).toNatClampNeg)) : va_E) = entR G a i o.toNat (cpy (M a0 i0 o0) (M a i o) sp dp n) := by
      rw [heb, J_clamp b1, J_clamp b2, J_clamp b3]
      congr 4
      funext q
      unfold va_cpy cpy
      by_cases hq : dp.toNat ≤ q ∧ q < dp.toNat + n.toNat
      · rw [if_pos hq, if_pos (by omega)]
        dsimp only
        rw [show ((sp.toNat + (q - dp.toNat) : Nat) : Int) = sp + ((q : Int) - dp) by omega]
      · rw [if_neg hq, if_neg (by omega)]
    rw [e9, wd_set hdb] at hP
    exact k p e s m args below meth c H1 locs1 ls cells slots C hl hP hS hc9 hn9
-- by the answer's kind
theorem ev_callVI {ci : Nat} {a : Nat} {i o : Int} {fs : List Value} {q9 : vw_C} {f : Int → Mem → Prop} (mf : MFV Y' n) (ml : Cond.methodLink (yN Y).cls idx (yN Y') ∈ lw_all) (dd : decode (yC Y) pc = .ok (.invokevirtual idx, 3)) (hh : yH Y = []) (hdm : dom a i o) (he : entI G M a i o = .inr (ci, fs)) (hci : vwCl[ci]? = some q9) (hcq : q9.1 = (yN Y').cls)
    (hn : As.length = n) (hlv : d' + 1 ≤ d) (hmx : yL Y' ≤ 27) (hu : u + u' ≤ U) (hst : (st.map fun v => v.category).sum ≤ 8) (hX : ∀ E M', X' E M' → X E M') (hc : Call G d' u' Y' (rr G a i o :: As) M (kI f) X')
    (k : ∀ x M', f x M' → Ex G Y d U K X (u + u') (pc + 3) lv (iv x :: st) M') : Ex G Y d U K X u pc lv (As.reverse ++ rr G a i o :: st) M :=
  ev_callV mf ml dd hh hdm he hci hcq hn hlv hmx hu hst hX hc (fun r M' hr => by obtain ⟨x, rfl, h9⟩ := hr; exact k x M' h9)
theorem ev_callVV {ci : Nat} {a : Nat} {i o : Int} {fs : List Value} {q9 : vw_C} {f : Mem → Prop} (mf : MFV Y' n) (ml : Cond.methodLink (yN Y).cls idx (yN Y') ∈ lw_all) (dd : decode (yC Y) pc = .ok (.invokevirtual idx, 3)) (hh : yH Y = []) (hdm : dom a i o) (he : entI G M a i o = .inr (ci, fs)) (hci : vwCl[ci]? = some q9) (hcq : q9.1 = (yN Y').cls)
    (hn : As.length = n) (hlv : d' + 1 ≤ d) (hmx : yL Y' ≤ 27) (hu : u + u' ≤ U) (hst : (st.map fun v => v.category).sum ≤ 8) (hX : ∀ E M', X' E M' → X E M') (hc : Call G d' u' Y' (rr G a i o :: As) M (kV f) X')
    (k : ∀ M', f M' → Ex G Y d U K X (u + u') (pc + 3) lv st M') : Ex G Y d U K X u pc lv (As.reverse ++ rr G a i o :: st) M :=
  ev_callV mf ml dd hh hdm he hci hcq hn hlv hmx hu hst hX hc (fun r M' hr => by obtain ⟨rfl, h9⟩ := hr; exact k M' h9)
theorem ev_callVD {ci : Nat} {a : Nat} {i o : Int} {fs : List Value} {q9 : vw_C} {f : UInt64 → Mem → Prop} (mf : MFV Y' n) (ml : Cond.methodLink (yN Y).cls idx (yN Y') ∈ lw_all) (dd : decode (yC Y) pc = .ok (.invokevirtual idx, 3)) (hh : yH Y = []) (hdm : dom a i o) (he : entI G M a i o = .inr (ci, fs)) (hci : vwCl[ci]? = some q9) (hcq : q9.1 = (yN Y').cls)
    (hn : As.length = n) (hlv : d' + 1 ≤ d) (hmx : yL Y' ≤ 27) (hu : u + u' ≤ U) (hst : (st.map fun v => v.category).sum ≤ 8) (hX : ∀ E M', X' E M' → X E M') (hc : Call G d' u' Y' (rr G a i o :: As) M (kD f) X')
    (k : ∀ x M', f x M' → Ex G Y d U K X (u + u') (pc + 3) lv (.double x :: st) M') : Ex G Y d U K X u pc lv (As.reverse ++ rr G a i o :: st) M :=
  ev_callV mf ml dd hh hdm he hci hcq hn hlv hmx hu hst hX hc (fun r M' hr => by obtain ⟨x, rfl, h9⟩ := hr; exact k x M' h9)
theorem ev_callSI {f : Int → Mem → Prop} (mf : MFS Y' n) (ml : Cond.methodLink (yN Y).cls idx (yN Y') ∈ lw_all) (dd : decode (yC Y) pc = .ok (.invokestatic idx, 3)) (hh : yH Y = [])
    (hn : As.length = n) (hlv : d' + 1 ≤ d) (hmx : yL Y' ≤ 27) (hu : u + u' ≤ U) (hst : (st.map fun v => v.category).sum ≤ 8) (hX : ∀ E M', X' E M' → X E M') (hc : Call G d' u' Y' As M (kI f) X')
    (k : ∀ x M', f x M' → Ex G Y d U K X (u + u') (pc + 3) lv (iv x :: st) M') : Ex G Y d U K X u pc lv (As.reverse ++ st) M :=
  ev_callS mf ml dd hh hn hlv hmx hu hst hX hc (fun r M' hr => by obtain ⟨x, rfl, h9⟩ := hr; exact k x M' h9)
theorem ev_callSV {f : Mem → Prop} (mf : MFS Y' n) (ml : Cond.methodLink (yN Y).cls idx (yN Y') ∈ lw_all) (dd : decode (yC Y) pc = .ok (.invokestatic idx, 3)) (hh : yH Y = [])
    (hn : As.length = n) (hlv : d' + 1 ≤ d) (hmx : yL Y' ≤ 27) (hu : u + u' ≤ U) (hst : (st.map fun v => v.category).sum ≤ 8) (hX : ∀ E M', X' E M' → X E M') (hc : Call G d' u' Y' As M (kV f) X')
    (k : ∀ M', f M' → Ex G Y d U K X (u + u') (pc + 3) lv st M') : Ex G Y d U K X u pc lv (As.reverse ++ st) M :=
  ev_callS mf ml dd hh hn hlv hmx hu hst hX hc (fun r M' hr => by obtain ⟨rfl, h9⟩ := hr; exact k M' h9)
theorem ev_callSNI {f : Int → Mem → Prop} (host : String) (mf : MFS Y' n) (ml : Cond.methodLinkNest (yN Y).cls idx (yN Y') host ∈ lw_tbl) (dd : decode (yC Y) pc = .ok (.invokestatic idx, 3)) (hh : yH Y = [])
    (hn : As.length = n) (hlv : d' + 1 ≤ d) (hmx : yL Y' ≤ 27) (hu : u + 0 ≤ U) (hst : (st.map fun v => v.category).sum ≤ 8) (hc : Call G d' 0 Y' As M (kI f) noX)
    (k : ∀ x M', f x M' → Ex G Y d U K X (u + 0) (pc + 3) lv (iv x :: st) M') : Ex G Y d U K X u pc lv (As.reverse ++ st) M :=
  ev_callSN host mf ml dd hh hn hlv hmx hu hst hc (fun r M' hr => by obtain ⟨x, rfl, h9⟩ := hr; exact k x M' h9)
theorem ev_mem {M0 M1 : Mem} {u9 : Nat} {R9 : Room} {Z9 : ZT} (e : M1 = M0) (k : Ev G Y R9 u9 Z9 pc lv st M1) : Ev G Y R9 u9 Z9 pc lv st M0 := e ▸ k
theorem ev_ldc {v9 : Int} {x : Int32} (hk : Cond.constant (yN Y).cls idx x ∈ lw_all) (dd : decode (yC Y) pc = .ok (.ldc idx, 2)) (hx : x = J v9) (k : Ex G Y d U K X u (pc + 2) lv (iv v9 :: st) M) : Ex G Y d U K X u pc lv st M := by
  intro p e s m args below meth c H locs ls cells slots C hl hs hS hc9 hn9
  subst hx
  exact lv_ldc C.1 C.2.1 C.2.2.2.1 (C.2.2.2.2.1 _ hk) dd (k p e s m args below meth c H locs ls cells slots C hl hs hS hc9 hn9)
end Calls9
