/-! ===== making: an object at the end of the world, and what it makes behind itself ===== -/
theorem vpI_cg {c : ClassId} {n : Nat} {f g : Nat → Int32} (h : ∀ j, j < n → f j = g j) : vp_cell c (n, .inl f) = vp_cell c (n, .inl g) := arrV_cg (fun j hj => congrArg Value.int (h j hj))
theorem vpQ_cg {c : ClassId} {n : Nat} {f g : Nat → Option Nat} (h : ∀ j, j < n → f j = g j) : vp_cell c (n, .inr (.inr (.inr (.inr f)))) = vp_cell c (n, .inr (.inr (.inr (.inr g)))) := arrV_cg (fun j hj => congrArg va_rf (h j hj))
def atPos (l : List Cond) (is : List Nat) : Bool := decide (is.map (fun i => lw_tbl[i]?) = l.map some) && l.all goodWord
theorem inA_of {l : List Cond} {is : List Nat} (h : atPos l is = true) : inAll l = true := by
  unfold atPos at h
  simp only [Bool.and_eq_true, decide_eq_true_eq] at h
  unfold inAll
  refine List.all_eq_true.mpr (fun w hw => ?_)
  have h1 : some w ∈ l.map some := List.mem_map.mpr ⟨w, hw, rfl⟩
  rw [← h.1] at h1
  obtain ⟨i, -, hi⟩ := List.mem_map.mp h1
  simp only [Bool.and_eq_true, decide_eq_true_eq]
  exact ⟨List.mem_of_getElem? hi, List.all_eq_true.mp h.2 w hw⟩
theorem mid_get {pre tl : List va_E} {x : va_E} : (pre ++ x :: tl)[pre.length]? = some x := by simp
theorem mid_set {pre tl : List va_E} {x y : va_E} : (pre ++ x :: tl).set pre.length y = pre ++ y :: tl := by simp
theorem mid_getT {pre tl : List va_E} {x : va_E} (j : Nat) : (pre ++ x :: tl)[pre.length + 1 + j]? = tl[j]? := by
  rw [List.getElem?_append_right (by omega), show pre.length + 1 + j - pre.length = j + 1 by omega, List.getElem?_cons_succ]
theorem mid_setT {pre tl : List va_E} {x y : va_E} (j : Nat) : (pre ++ x :: tl).set (pre.length + 1 + j) y = pre ++ x :: tl.set j y := by
  rw [List.set_append_right _ _ (by omega), show pre.length + 1 + j - pre.length = j + 1 by omega, List.set_cons_succ]
theorem mid_app {pre tl l : List va_E} {x : va_E} : (pre ++ x :: tl) ++ l = pre ++ x :: (tl ++ l) := by simp
theorem mid_len {pre tl : List va_E} {x : va_E} : (pre ++ x :: tl).length = pre.length + 1 + tl.length := by simp; omega
section Mk3
variable {G : GT} {Y : YT} {d mc ms w pc : Nat} {es' : List va_E} {pre tl : List va_E} {x0 : va_E} {lv : List (Nat × Value)} {st : List Value} {ci : Nat} {fs : List Value}
abbrev EvO (G : GT) (Y : YT) (d mc ms : Nat) (pre : List va_E) (es' : List va_E) (w pc : Nat) (lv : List (Nat × Value)) (st : List Value) (x : va_E) (tl : List va_E) : Prop := EvE G Y d mc ms (pre.length + 1) es' w pc lv st (pre ++ x :: tl)
theorem eo_intro {x : va_E} (hy : plainName (yN Y).cls = true) (hh : yH Y = []) (hL : (lg_sl [.ref (bG G + pre.length)]).length ≤ yL Y) (k : EvO G Y d mc ms pre es' 0 0 [(0, .ref (bG G + pre.length))] [] x []) : CallE G d mc ms Y [.ref (bG G + pre.length)] (pre ++ [x]) es' := by
  refine ce_intro (lv := [(0, .ref (bG G + pre.length))]) hy hh hL rfl ?_
  rw [List.length_append]
  exact k
theorem eo_put {k N idx : Nat} {C : String} {T : u_T} {v : Value} {ty : FieldType} (t0 : Nat → FieldType) (hcl : clOK ci C T N) (hk : k < N) (hw : inAll [Cond.fieldLink (yN Y).cls idx (T k).1 (T k).2.1 (T k).2.2.1] = true) (hty : ∀ k, k < N → parseFieldDescriptor (T k).2.2.1 = some (t0 k))
    (hnm : ∀ a, a < N → ∀ b, b < N → a ≠ b → (T a).2.1 ≠ (T b).2.1) (hini : (yN Y).name = "<init>") (hdecl : (T k).1 = (yN Y).cls) (hd : parseFieldDescriptor (T k).2.2.1 = some ty) (hn9 : narrow ty v = v) (hfit : fits ty v = true) (hlen : k < fs.length)
    (dd : decode (yC Y) pc = .ok (.putfield idx, 3)) (kk : EvO G Y d mc ms pre es' w (pc + 3) lv st (.inr (ci, fs.set k v)) tl) : EvO G Y d mc ms pre es' w pc lv (v :: .ref (bG G + pre.length) :: st) (.inr (ci, fs)) tl :=
  ec_put t0 hcl hk hw hty hnm hini hdecl hd hn9 hfit hlen dd mid_get (by rw [mid_set]; exact kk)
theorem eo_get {k N idx : Nat} {C : String} {T : u_T} {v : Value} (hcl : clOK ci C T N) (hk : k < N) (hw : inAll [Cond.fieldLink (yN Y).cls idx (T k).1 (T k).2.1 (T k).2.2.1] = true) (dd : decode (yC Y) pc = .ok (.getfield idx, 3)) (hv : fs[k]? = some v)
    (kk : EvO G Y d mc ms pre es' w (pc + 3) lv (v :: st) (.inr (ci, fs)) tl) : EvO G Y d mc ms pre es' w pc lv (.ref (bG G + pre.length) :: st) (.inr (ci, fs)) tl :=
  ec_get hcl hk hw dd mid_get hv kk
theorem eo_newa {t n j : Nat} {ty : FieldType} {at9 : ArrayType} (dd : decode (yC Y) pc = .ok (.newarray at9, 2)) (hty : newarray.typeOf at9 = ty) (hw : Cond.arrayClass ty ∈ lw_all) (ht : (tyG G)[t]? = some (cyG G t, ty)) (hra : va_RA (s0G G) (cyG G t) ty = ((s0G G).vm.findClass ("[" ++ ty.toString) = some (cyG G t)))
    (ha : ∀ cA : ClassId, vp_cell cA (n, .inl (fun _ => (0 : Int32))) = arrV cA n (fun _ => defaultValue ty)) (hn9 : n ≤ 100000) (hb : n * componentBytes ty ≤ 536870912) (hj : tl.length = j) (h1 : j + 1 ≤ mc) (h2 : w + n ≤ ms)
    (k : EvO G Y d mc ms pre es' (w + n) (pc + 2) lv (.ref (bG G + (pre.length + 1 + j)) :: st) x0 (tl ++ [.inl (cyG G t, n, .inl (fun _ => (0 : Int32)))])) : EvO G Y d mc ms pre es' w pc lv (iv (n : Int) :: st) x0 tl :=
  ec_newa dd hty hw ht hra ha hn9 hb (by rw [mid_len]; omega) h2 (by rw [mid_len, hj]) (by rw [mid_app]; exact k)
theorem eo_anew {idx n j : Nat} (hw : inAll [Cond.classLink (yN Y).cls idx "TramLines$Line"] = true) (ho : AO G) (dd : decode (yC Y) pc = .ok (.anewarray idx, 3)) (hn9 : n ≤ 100000) (hj : tl.length = j) (h1 : j + 1 ≤ mc) (h2 : w + n ≤ ms)
    (k : EvO G Y d mc ms pre es' (w + n) (pc + 3) lv (.ref (bG G + (pre.length + 1 + j)) :: st) x0 (tl ++ [.inl (cyG G 3, n, .inr (.inr (.inr (.inr (fun _ => none)))))])) : EvO G Y d mc ms pre es' w pc lv (iv (n : Int) :: st) x0 tl :=
  ec_anew hw ho dd hn9 (by rw [mid_len]; omega) h2 (by rw [mid_len, hj]) (by rw [mid_app]; exact k)
theorem eo_mna {idx n k9 j : Nat} (hw : inAll [Cond.classLink (yN Y).cls idx ("[" ++ (FieldType.array .int).toString), Cond.arrayClass .int] = true) (ho : AO G) (dd : decode (yC Y) pc = .ok (.multianewarray idx 2, 4)) (hn9 : n ≤ 10000) (hk9 : k9 ≤ 10000) (hj : tl.length = j) (h1 : j + (1 + n) ≤ mc) (h2 : w + (n + n * k9) ≤ ms)
    (k : EvO G Y d mc ms pre es' (w + (n + n * k9)) (pc + 4) lv (.ref (bG G + (pre.length + 1 + j)) :: st) x0 (tl ++ (aQ (cyG G 4) n (fun i => some (bG G + (pre.length + 1 + j) + 1 + i)) :: List.replicate n (.inl (cyG G 0, k9, .inl (fun _ => (0 : Int32))))))) : EvO G Y d mc ms pre es' w pc lv (iv (k9 : Int) :: iv (n : Int) :: st) x0 tl :=
  ec_mna hw ho dd hn9 hk9 (by rw [mid_len]; omega) h2 (by rw [mid_len, hj]) (by rw [mid_app]; exact k)
/-- new; dup; invokespecial -/
theorem eo_make {ci' N idx ic d' mc' ms' j : Nat} {C : String} {T : u_T} {fs' : List Value} {Y' : YT} (ty : Nat → FieldType) (B : Nat → List va_E) (hcl : clOK ci' C T N) (hty : ∀ k, k < N → parseFieldDescriptor (T k).2.2.1 = some (ty k)) (hfs : ∀ j, j < N → defaultValue (ty j) = vp_V fs' j) (hw : inAll [Cond.classLink (yN Y).cls idx C, Cond.instantiable C N, Cond.initialized C] = true)
    (hw2 : inAll [Cond.instanceMethod (yN Y'), Cond.initialized (yN Y').cls, Cond.code (yN Y') (yC Y') (yL Y') (yR Y')] = true) (hlk : Cond.methodLink (yN Y).cls ic (yN Y') ∈ lw_all ∨ Cond.methodLinkNest (yN Y).cls ic (yN Y') "TramLines" ∈ lw_tbl) (hy : (yN Y').name = "<init>") (hr : yR Y' = none)
    (hd : (yN Y').cls ≠ "java/lang/invoke/MethodHandle" ∧ (yN Y').cls ≠ "java/lang/invoke/VarHandle" ∧ (parseMethodDescriptor (yN Y').desc).map (fun d => d.parameters.length) = some 0) (hlv : d' + 1 ≤ d) (hmx : yL Y' ≤ 27) (hst : (st.map fun v => v.category).sum ≤ 7)
    (dd : decode (yC Y) pc = .ok (.new idx, 3)) (dd2 : decode (yC Y) (pc + 3) = .ok (.dup, 1)) (dd3 : decode (yC Y) (pc + 4) = .ok (.invokespecial ic, 3)) (hB : ∀ pre' : List va_E, CallE G d' mc' ms' Y' [.ref (bG G + pre'.length)] (pre' ++ [.inr (ci', fs')]) (pre' ++ B pre'.length)) (hBl : ∀ q, (B q).length = mc' + 1) (hj : tl.length = j) (h1 : j + 1 + mc' ≤ mc) (h2 : w + N + ms' ≤ ms)
    (k : EvO G Y d mc ms pre es' (w + N + ms') (pc + 7) lv (.ref (bG G + (pre.length + 1 + j)) :: st) x0 (tl ++ B (pre.length + 1 + j))) : EvO G Y d mc ms pre es' w pc lv st x0 tl := by
  refine ec_new ty hcl hty hfs hw dd (by rw [mid_len]; omega) (by omega) (show bG G + (pre ++ x0 :: tl).length = bG G + (pre.length + 1 + j) by rw [mid_len, hj]) ?_
  refine ec_dup dd2 rfl ?_
  have e := hB (pre ++ x0 :: tl)
  rw [show (pre ++ x0 :: tl).length = pre.length + 1 + j by rw [mid_len, hj]] at e
  refine ec_init hw2 hlk hy hr hd dd3 hlv hmx (by simp only [List.map_cons, List.sum_cons]; show 1 + _ ≤ 8; omega) (by simp only [List.length_append, List.length_cons, List.length_nil]; omega) h2 (by simp only [List.length_append, List.length_cons, List.length_nil, hBl]; omega) e ?_
  rw [mid_app]
  exact k
theorem eo_zast {j n : Nat} {k x : Int} {f : Nat → Int32} (dd : decode (yC Y) pc = .ok (.bastore, 1)) (hi : tl[j]? = some (.inl (cyG G 1, n, .inl f))) (hn9 : n ≤ 100000) (h0 : 0 ≤ k) (h1 : k < (n : Int)) (hx : vp_nar .boolean (J x) = J x)
    (kk : EvO G Y d mc ms pre es' w (pc + 1) lv st x0 (tl.set j (.inl (cyG G 1, n, .inl (upd f k.toNat (J x)))))) : EvO G Y d mc ms pre es' w pc lv (iv x :: iv k :: .ref (bG G + (pre.length + 1 + j)) :: st) x0 tl :=
  ec_zast dd ((mid_getT j).trans hi) hn9 h0 h1 hx (by rw [mid_setT]; exact kk)
theorem eo_iast {j n : Nat} {k x : Int} {f : Nat → Int32} (dd : decode (yC Y) pc = .ok (.iastore, 1)) (hi : tl[j]? = some (.inl (cyG G 0, n, .inl f))) (hn9 : n ≤ 100000) (h0 : 0 ≤ k) (h1 : k < (n : Int))
    (kk : EvO G Y d mc ms pre es' w (pc + 1) lv st x0 (tl.set j (.inl (cyG G 0, n, .inl (upd f k.toNat (J x)))))) : EvO G Y d mc ms pre es' w pc lv (iv x :: iv k :: .ref (bG G + (pre.length + 1 + j)) :: st) x0 tl :=
  ec_iast dd ((mid_getT j).trans hi) hn9 h0 h1 (by rw [mid_setT]; exact kk)
theorem eo_tell {j : Nat} {c : ClassId} {a b : vp_A} (hi : tl[j]? = some (.inl (c, a))) (hab : vp_cell c a = vp_cell c b) (kk : EvO G Y d mc ms pre es' w pc lv st x0 (tl.set j (.inl (c, b)))) : EvO G Y d mc ms pre es' w pc lv st x0 tl :=
  ec_tell (n := 0) ((mid_getT j).trans hi) hab (by rw [mid_setT]; exact kk)
/-- a line into the row of kept ones -/
theorem ec_alen {es : List va_E} {n0 i n : Nat} {f : Nat → Int32} (dd : decode (yC Y) pc = .ok (.arraylength, 1)) (hi : es[i]? = some (.inl (cyG G 0, n, .inl f))) (hn9 : n ≤ 100000) (k : EvE G Y d mc ms n0 es' w (pc + 1) lv (iv (n : Int) :: st) es) : EvE G Y d mc ms n0 es' w pc lv (.ref (bG G + i) :: st) es := by
  intro p e s m args below meth c H locs ls cells slots C hm hl hs hS hz hc hn
  exact va_alen C.1 C.2.1 C.2.2.2.2.2.2.2.1.K hs i 0 (wE_at hi) rfl (v := J (n : Int)) rfl dd (k p e s m args below meth c H locs ls cells slots C hm hl hs hS hz hc hn)
theorem eo_aast {j n jo : Nat} {fs' : List Value} {k : Int} {f : Nat → Option Nat} (dd : decode (yC Y) pc = .ok (.aastore, 1)) (hi : tl[j]? = some (.inl (cyG G 3, n, .inr (.inr (.inr (.inr f)))))) (ho : tl[jo]? = some (.inr (6, fs'))) (hn9 : n ≤ 100000) (h0 : 0 ≤ k) (h1 : k < (n : Int))
    (kk : EvO G Y d mc ms pre es' w (pc + 1) lv st x0 (tl.set j (.inl (cyG G 3, n, .inr (.inr (.inr (.inr (va_up f k.toNat (some (bG G + (pre.length + 1 + jo)))))))))) ) : EvO G Y d mc ms pre es' w pc lv (.ref (bG G + (pre.length + 1 + jo)) :: iv k :: .ref (bG G + (pre.length + 1 + j)) :: st) x0 tl := by
  intro p e s m args below meth c H locs ls cells slots C hm hl hs hS hz hc hn
  have hii := i32_idx h0 h1 hn9
  refine va_astq C.1 C.2.1 C.2.2.2.2.2.2.2.1.K hs wE_D hS (pre.length + 1 + j) 3 (pre.length + 1 + jo) 6 (r := (RX4, TX4, 4)) (wE_at ((mid_getT j).trans hi)) rfl (wE_at ((mid_getT jo).trans ho)) rfl (J_in h0 h1 hn9) dd (fun H1 locs1 hP hD hS => ?_)
  rw [J_clamp hii] at hP
  exact kk p e s m args below meth c H1 locs1 ls cells slots C hm hl (by
    have h9 := simE_set (A := AG G) hs ((mid_getT j).trans hi) hP
    rw [mid_setT] at h9
    exact h9) hS hz (by rw [mid_len] at hc ⊢; rw [List.length_set]; exact hc) hn
-- a static row
theorem ec_sget {es : List va_E} {n0 : Nat} {nm : String} {l : List Int} {idx : Nat} (hs9 : GOK G → SA G nm l) (hlk : Cond.fieldLinkNest (yN Y).cls idx "TramLines" nm "[I" "TramLines" ∈ lw_tbl) (dd : decode (yC Y) pc = .ok (.getstatic idx, 3))
    (k : ∀ t, SAx G t l → EvE G Y d mc ms n0 es' w (pc + 3) lv (.ref t :: st) es) : EvE G Y d mc ms n0 es' w pc lv st es := by
  intro p e s m args below meth c H locs ls cells slots C hm hl hs hS hz hc hn
  have hV := C.2.2.2.2.2.2.2.1
  obtain ⟨t, hz9, ht⟩ := hs9 hV.1
  have hz' : va_Z "TramLines" nm "[I" (.ref t) (AG G) s s.heap := (va_Z.moved hV.2.1.alike hz9).kept (fun a ha _ => hV.2.2.2 a ha)
  exact va_getsN C.1 C.2.1 hz' hS C.2.2.2.1 (va_Nw.use rfl (va_Nw.warmF hV.2.1 (hV.1.2.2.2.1 _ hlk rfl))) (fun _ h => h) dd (k t ht p e s m args below meth c H locs ls cells slots C hm hl hs hS hz hc hn)
set_option maxHeartbeats 1000000 in
/-- System.arraycopy out of a static row -/
theorem ec_copyS {es : List va_E} {n0 i n1 t idx : Nat} {l : List Int} {g : Nat → Int32} (hw : inAll [Cond.methodLink (yN Y).cls idx arraycopyName, Cond.native arraycopyName, Cond.static arraycopyName, Cond.initialized "java/lang/System"] = true) (dd : decode (yC Y) pc = .ok (.invokestatic idx, 3)) (hT : SAx G t l) (hi : es[i]? = some (.inl (cyG G 0, n1, .inl g))) (h5 : 3 ≤ n1) (hd : 1 ≤ d) (hst : (st.map fun v => v.category).sum ≤ 8)
    (kk : EvE G Y d mc ms n0 es' w (pc + 3) lv st (es.set i (.inl (cyG G 0, n1, .inl (va_cpy (fun k => J (l.getD k 0)) g 0 0 3))))) : EvE G Y d mc ms n0 es' w pc lv (iv 3 :: iv 0 :: .ref (bG G + i) :: iv 0 :: .ref t :: st) es := by
  intro p e s m args below meth c H locs ls cells slots C hm hl hs hS hz hc hn
  have hV := C.2.2.2.2.2.2.2.1
  have hts := C.2.2.2.2.1
  have hwi := inAll_mem hw
  have hT' : va_T .int t 3 (fun k => .int (J (l.getD k 0))) (AG G) s s.heap := (va_T.moved hV.2.1.alike hT).kept (fun a ha _ => hV.2.2.2 a ha)
  have ha1 := wE_at (G := G) hi
  have h9 := hs _ _ ha1
  intro T hTT X
  obtain ⟨scr, hs1, hs2, hs3, hs4, -, hs5, hs7⟩ := hT'
  have hc0 : H[t]? = some scr := by rw [hS.2.1 t (Array.getElem?_eq_some_iff.mp hs1).1 hs7]; exact hs1
  have hc1 : H[bG G + i]? = some (vp_cell (cyG G 0) (n1, .inl g)) := h9
  obtain ⟨hs6, k0, hk0, cm0, hkk0⟩ := hs2
  obtain ⟨-, k1, hk1, cm1, hkk1⟩ := (hV.K.2 0 (cyG G 0, .int) rfl).1 n1 (fun j => .int (g j))
  obtain ⟨vm', X', step⟩ := X.arraycopy C.1 C.2.2.2.1 (hts _ (hwi _ mm0)) (hts _ (hwi _ mm1)) (hts _ (hwi _ mm2)) (hts _ (hwi _ mm3)) (src := t) (dst := bG G + i) (cs := scr) (cd := vp_cell (cyG G 0) (n1, .inl g)) (srcPos := J 0) (destPos := J 0) (n := J 3) (by rw [hTT]; exact hc0) (by rw [hTT]; exact hc1)
    hs6 (fun _ h => by cases h) hs3 (fun h => by cases h) hk0 hk1 hkk0 hkk1 (by simp [refKind]) (by decide) (by decide) (by decide)
    (by show ¬ ((0 : Int) + 3 > _); omega)
    (by show ¬ ((0 : Int) + 3 > ((arrV (cyG G 0) n1 (fun j => .int (g j))).slots.size : Int)); rw [arrV_size]; omega)
    (fun vm₁ _ i hi => by
      have hi3 : i < 3 := hi
      have e : scr.slots.getD ((J 0).toNatClampNeg + i) .null = .int (J (l.getD i 0)) := by
        show scr.slots.getD (0 + i) .null = _
        rw [Nat.zero_add, Array.getD_eq_getD_getElem?, hs5 _ hi3]
        rfl
      refine ⟨?_, ?_⟩
      · rw [e]
        rfl
      · rw [e]
        exact trivial)
    (g := F0 m pc ls (iv 3 :: iv 0 :: .ref (bG G + i) :: iv 0 :: .ref t :: st)) rfl (by rw [C.2.2.1]; exact hl.1) (rest := st) rfl (by rw [C.2.1]; exact dd) hd (by
      have e9 : nativeFrameWords "java/lang/System" "arraycopy" 5 + 11 ≤ 38 := by decide +kernel
      show 2 * 0 + _ + _ ≤ 46 * d
      omega)
  have e1 : copied scr (vp_cell (cyG G 0) (n1, .inl g)) (J 0) (J 0) (J 3) = vp_cell (cyG G 0) (n1, .inl (va_cpy (fun k => J (l.getD k 0)) g 0 0 3)) := va_copiedX (fun z => .int z) scr (cyG G 0) (fun k => J (l.getD k 0)) g hs5 (by decide)
  rw [e1] at X' step
  have hl9 : bG G + i < H.size := (Array.getElem?_eq_some_iff.mp hc1).1
  have hheap : ((T.setVm vm').setCell (bG G + i) (vp_cell (cyG G 0) (n1, .inl (va_cpy (fun k => J (l.getD k 0)) g 0 0 3)))).heap = H.setIfInBounds (bG G + i) (vp_cell (cyG G 0) (n1, .inl (va_cpy (fun k => J (l.getD k 0)) g 0 0 3))) := by rw [← hTT]; rfl
  have oq : ∀ q : Nat, q ≠ bG G + i → (H.setIfInBounds (bG G + i) (vp_cell (cyG G 0) (n1, .inl (va_cpy (fun k => J (l.getD k 0)) g 0 0 3))))[q]? = H[q]? := fun q hq => by simp [Array.getElem?_setIfInBounds, Ne.symm hq]
  obtain ⟨t9, a1, b1⟩ := kk p e s m args below meth c _ _ ls cells slots C hm hl (by
      unfold SimE
      rw [← wE_set]
      exact va_P.set hs wE_D ha1 (show (H.setIfInBounds (bG G + i) _)[bG G + i]? = some _ by simp [Array.getElem?_setIfInBounds, hl9]) oq) ⟨by simp; exact hS.1, fun q g1 g2 => by
      rw [oq q (fun e => g2 (by rw [e]; show bG G ≤ bG G + i; omega))]
      exact hS.2.1 q g1 g2, fun q hq => by
      rcases List.mem_append.mp hq with h | h
      · exact hS.2.2 q h
      · obtain ⟨z, -, hz⟩ := List.mem_map.mp h
        rw [← hz]
        show bG G ≤ bG G + i
        omega⟩ hz (by rw [List.length_set]; exact hc) hn _ hheap X'
  exact ⟨t9, step t9 a1, b1⟩
theorem eo_copyS {j n1 t idx : Nat} {l : List Int} {g : Nat → Int32} (hw : inAll [Cond.methodLink (yN Y).cls idx arraycopyName, Cond.native arraycopyName, Cond.static arraycopyName, Cond.initialized "java/lang/System"] = true) (dd : decode (yC Y) pc = .ok (.invokestatic idx, 3)) (hT : SAx G t l) (hi : tl[j]? = some (.inl (cyG G 0, n1, .inl g))) (h5 : 3 ≤ n1) (hd : 1 ≤ d) (hst : (st.map fun v => v.category).sum ≤ 8)
    (kk : EvO G Y d mc ms pre es' w (pc + 3) lv st x0 (tl.set j (.inl (cyG G 0, n1, .inl (va_cpy (fun k => J (l.getD k 0)) g 0 0 3))))) : EvO G Y d mc ms pre es' w pc lv (iv 3 :: iv 0 :: .ref (bG G + (pre.length + 1 + j)) :: iv 0 :: .ref t :: st) x0 tl :=
  ec_copyS hw dd hT ((mid_getT j).trans hi) h5 hd hst (by rw [mid_setT]; exact kk)
/-- Arrays.fill -/
theorem ce_fill {es : List va_E} {i n : Nat} {v : Int} {f : Nat → Int32} (hi : es[i]? = some (.inl (cyG G 0, n, .inl f))) (hn9 : n ≤ 100000) : CallE G 1 0 0 zfill [.ref (bG G + i), iv v] es (es.set i (.inl (cyG G 0, n, .inl (fun _ => J v)))) := by
  have hil : i < es.length := (List.getElem?_eq_some_iff.mp hi).1
  refine ce_intro (lv := [(0, .ref (bG G + i)), (1, iv v)]) (by decide) rfl (Nat.le_of_ble_eq_true rfl) rfl ?_
  refine ec_iconst dJ7_fill_53178_0 ?_
  refine ec_istore dJ7_fill_53178_1 rfl (by decide) rfl ?_
  refine ec_aload (j := 1) dJ7_fill_53178_2 rfl rfl ?_
  refine ec_alen dJ7_fill_53178_3 hi hn9 ?_
  refine ec_istore dJ7_fill_53178_4 rfl (by decide) rfl ?_
  have sub : ∀ {es9 : List va_E} {pc : Nat} {lv lv' : List (Nat × Value)} (ks : List Nat), lv_pick lv ks = lv' → EvE G zfill 1 0 0 es.length (es.set i (.inl (cyG G 0, n, .inl (fun _ => J v)))) 0 pc lv' [] es9 → EvE G zfill 1 0 0 es.length (es.set i (.inl (cyG G 0, n, .inl (fun _ => J v)))) 0 pc lv [] es9 := fun ks h k p e s m args below meth c H locs ls cells slots C hm hl hs hS hz hc hn => k p e s m args below meth c H locs ls cells slots C hm (lv_sub hl ks h) hs hS hz hc hn
  have gen := loop_up (E := fun q => 0 ≤ q → EvE G zfill 1 0 0 es.length (es.set i (.inl (cyG G 0, n, .inl (fun _ => J v)))) 0 5 [(0, .ref (bG G + i)), (1, iv v), (2, iv q), (3, iv (n : Int))] [] (es.set i (.inl (cyG G 0, n, .inl (fun k => if (k : Int) < q then J v else f k))))) (a := 0) (b := (n : Int)) (by omega) (fun _ => by
    refine ec_iload (j := 2) dJ7_fill_53178_5 rfl rfl ?_
    refine ec_iload (j := 3) dJ7_fill_53178_6 rfl rfl ?_
    refine ec_icmp_ge 20 dJ7_fill_53178_7 (by decide) (i32 (by omega)) (i32 (by omega)) (fun _ => ?_) (fun z => absurd z (by omega))
    refine ec_tell (n := 0) (b := (n, .inl (fun _ => J v))) (List.getElem?_set_self hil) (vpI_cg (fun j hj => ?_)) ?_
    · show (if (j : Int) < (n : Int) then J v else f j) = J v
      rw [if_pos (by omega)]
    · exact ec_ret dJ7_fill_53178_20 rfl (by rw [List.length_set, List.length_set]; omega) (by decide) (by rw [List.set_set])) (fun q q1 q2 hn _ => by
    refine ec_iload (j := 2) dJ7_fill_53178_5 rfl rfl ?_
    refine ec_iload (j := 3) dJ7_fill_53178_6 rfl rfl ?_
    refine ec_icmp_ge 20 dJ7_fill_53178_7 (by decide) (i32 (by omega)) (i32 (by omega)) (fun z => absurd q2 z) (fun _ => ?_)
    refine ec_aload (j := 0) dJ7_fill_53178_10 rfl rfl ?_
    refine ec_iload (j := 2) dJ7_fill_53178_11 rfl rfl ?_
    refine ec_iload (j := 1) dJ7_fill_53178_12 rfl rfl ?_
    refine ec_iast dJ7_fill_53178_13 (List.getElem?_set_self hil) hn9 q1 q2 ?_
    refine ec_iinc (j := 2) dJ7_fill_53178_14 rfl (by decide) rfl ?_
    refine ec_goto 5 dJ7_fill_53178_17 (by decide) ?_
    refine sub [1, 2, 0, 3] rfl ?_
    rw [List.set_set]
    have e9 : upd (fun k : Nat => if (k : Int) < q then J v else f k) q.toNat (J v) = (fun k : Nat => if (k : Int) < q + 1 then J v else f k) := by
      funext k
      show (if k = q.toNat then J v else (if (k : Int) < q then J v else f k)) = (if (k : Int) < q + 1 then J v else f k)
      by_cases hk : k = q.toNat
      · rw [if_pos hk, if_pos (by omega)]
      · rw [if_neg hk]
        by_cases h2 : (k : Int) < q
        · rw [if_pos h2, if_pos (by omega)]
        · rw [if_neg h2, if_neg (by omega)]
    rw [e9]
    exact hn (by omega))
  have h := gen (Int.le_refl _)
  have e0 : (fun k : Nat => if (k : Int) < 0 then J v else f k) = f := by
    funext k
    rw [if_neg (by omega)]
  rw [e0] at h
  have e1 : es.set i (.inl (cyG G 0, n, .inl f)) = es := by
    apply List.ext_getElem?
    intro k
    rw [List.getElem?_set]
    by_cases hk : i = k
    · rw [if_pos hk, if_pos hil, ← hk, hi]
    · rw [if_neg hk]
  rw [e1] at h
  exact sub [2, 3, 1, 0] rfl h
theorem eo_fill {j n idx : Nat} {v : Int} {f : Nat → Int32} (dd : decode (yC Y) pc = .ok (.invokestatic idx, 3)) (hi : tl[j]? = some (.inl (cyG G 0, n, .inl f))) (hn9 : n ≤ 100000) (hw : inAll [Cond.methodLink (yN Y).cls idx (yN zfill), Cond.static (yN zfill), Cond.initialized (yN zfill).cls, Cond.code (yN zfill) (yC zfill) (yL zfill) (yR zfill)] = true) (hlv : 2 ≤ d) (hst : (st.map fun v => v.category).sum ≤ 8) (h1 : tl.length ≤ mc) (h2 : w ≤ ms)
    (kk : EvO G Y d mc ms pre es' w (pc + 3) lv st x0 (tl.set j (.inl (cyG G 0, n, .inl (fun _ => J v))))) : EvO G Y d mc ms pre es' w pc lv (iv v :: .ref (bG G + (pre.length + 1 + j)) :: st) x0 tl := by
  intro p e s m args below meth c H locs ls cells slots C hm hl hs hS hz hc hn
  have hts := C.2.2.2.2.1
  have hwi := inAll_mem hw
  have hc9 := ce_fill (G := G) (v := v) ((mid_getT (pre := pre) (x := x0) j).trans hi) hn9
  refine ec_sz hs hS hz hc (fun hH => ?_)
  have run := va_runS (As := [.ref (bG G + (pre.length + 1 + j)), iv v]) (rest := st) (g := F0 m pc ls (iv v :: .ref (bG G + (pre.length + 1 + j)) :: st)) (mc := 0) (ms := 0) (free := AG G) (p := p) (l := lG G) (e := e) (R := rmC d mc ms) (below := below) (meth := meth) (H := H) (locs := locs) (cells := cells) (slots := slots) ⟨C.1, C.2.1, C.2.2.1, C.2.2.2.1, hts⟩ hc9 (va_cwS 2 hts (own := (yN Y).cls) (index := idx) (rm := rmC 1 0 0) (bytes := yC zfill) (maxL := yL zfill) (ret := yR zfill) (ws' := lw_all) (all_in (fun w hw => by
      simp only [va_wsS, wsY, List.cons_append, List.nil_append, List.mem_cons] at hw
      rcases hw with rfl | rfl | rfl | rfl | hw
      · exact hwi _ mm0
      · exact hwi _ mm1
      · exact hwi _ mm2
      · exact hwi _ mm3
      · exact hw)) rfl rfl rfl ⟨by decide, by decide, by decide +kernel⟩ ⟨hlv, by show 8 + (4 + 11) + 46 * 1 ≤ 46 * d; omega⟩)
    ⟨PcE_blind, fun U9 hU hW => ⟨rfl, C.2.2.2.2.2.2.2.1.at hS hU hW, by rw [hU]; exact hs, by rw [hU]; exact hH⟩⟩ rfl rfl hl.1 rfl (lv_room hst) dd ⟨by show cells + 0 ≤ mc; rw [mid_len] at hc; omega, by show slots + 0 ≤ ms; omega⟩
  intro T hT X
  obtain ⟨v9, st₀, t, T', L, h0, X', hL, e1, e2, ⟨⟨hv, hp, hb⟩, hz9, hk⟩, go⟩ := run T hT X
  cases hv
  rw [h0] at hz9 hk
  rw [mid_setT] at hp
  obtain ⟨t2, a1, b1⟩ := kk p e s m args below meth c T'.heap (locs ++ L) ls (cells + 0) (slots + 0) C hm hl (by rw [e1]; exact hp) ⟨by rw [e1]; exact Nat.le_trans hS.1 hz9, fun q g1 g2 => by
      rw [e1, hk q (Nat.lt_of_lt_of_le g1 hS.1) (fun z => g2 z)]
      exact hS.2.1 q g1 g2, fun q hq => by
      rcases List.mem_append.mp hq with h | h
      · exact hS.2.2 q h
      · exact hL q h⟩ hz (by rw [mid_len] at hc ⊢; rw [List.length_set]; exact hc) (by omega) T' rfl X'
  exact ⟨t2, go t2 a1, b1⟩
end Mk3
