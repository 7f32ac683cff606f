/-! ===== the law's beginning: the objects are made ===== -/
def EvP (G : GT) (b w pc : Nat) (lv : List (Nat × Value)) (st : List Value) (es : List va_E) : Prop :=
  ∀ (p : Program) (e : Env) (s : State) (m : MethodId) (args : Array Value) (below : List Frame) (meth : Method) (c : Code) (H : Heap) (locs : List Loc) (ls : Array Slot) (cells slots : Nat),
    Cx G zL_law p s m args meth c → lv_has ls 9 lv → SimE G es H → va_S (AG G) s.heap H locs → s.heap.size = bG G → cells ≤ es.length → slots ≤ w →
    W p (lG G) e room_1 s m args below meth c H locs cells slots (ZL G b below args s) (F0 m pc ls st)
section Ep
variable {G : GT} {b w pc : Nat} {lv lv' : List (Nat × Value)} {st : List Value} {es : List va_E}
theorem ep_new {ci N idx q : Nat} {C : String} {T : u_T} {fs : List Value} (ty : Nat → FieldType) (hcl : clOK ci C T N) (hty : ∀ k, k < N → parseFieldDescriptor (T k).2.2.1 = some (ty k)) (hfs : ∀ j, j < N → defaultValue (ty j) = vp_V fs j) (hw : inAll [Cond.classLink RL idx C, Cond.instantiable C N, Cond.initialized C] = true)
    (dd : decode (yC zL_law) pc = .ok (.new idx, 3)) (h1 : es.length + 1 ≤ 1000) (h2 : w + N ≤ 100000) (hq : bG G + es.length = q) (k : EvP G b (w + N) (pc + 3) lv (.ref q :: st) (es ++ [.inr (ci, fs)])) : EvP G b w pc lv st es := by
  intro p e s m args below meth c H locs ls cells slots C9 hl hs hS hz hc hn
  have hV := C9.2.2.2.2.2.2.2.1
  have hts := C9.2.2.2.2.1
  have hi := inAll_mem hw
  have hKn := hV.K.1 ci _ hcl.1
  refine ec_sz (n0 := 0) hs hS hz (by omega) (fun hH => ?_)
  refine W.newcK C9.1 C9.2.1 C9.2.2.2.1 (hts _ (hi _ mm0)) (hts _ (hi _ mm1)) (hts _ (hi _ mm2)) rfl dd ?_ ?_ hKn.2.1 hH (fun H1 kC hkC e1 z1 o1 => ?_)
  · show cells + 1 ≤ 603072
    omega
  · show slots + N ≤ 7211114
    omega
  · subst hq
    refine k p e s m args below meth c H1 locs ls (cells + 1) (slots + N) C9 hl ?_ ⟨Nat.le_trans hS.1 (by omega), fun x h1 h2 => (o1 x (by have := hS.1; omega)).trans (hS.2.1 x h1 h2), hS.2.2⟩ hz (by rw [List.length_append]; show cells + 1 ≤ es.length + 1; omega) (by omega)
    unfold SimE
    rw [← wE_app]
    refine (va_P.kept hs (fun k x hx => o1 x.1 (by have := (hs k x hx).lt; omega))).app (fun k x hx => ?_)
    have h0 : k < 1 := (List.getElem?_eq_some_iff.mp hx).1
    rw [show k = 0 by omega] at hx
    cases hx
    exact ⟨_, hcl.1, (u_born ty hts (hcl.2) hKn hkC e1 hty).to hfs⟩
theorem ep_dup {v : Value} (dd : decode (yC zL_law) pc = .ok (.dup, 1)) (hv : v.category = 1) (k : EvP G b w (pc + 1) lv (v :: v :: st) es) : EvP G b w pc lv (v :: st) es :=
  fun p e s m args below meth c H locs ls cells slots C hl hs hS hz hc hn => lv_dup C.1 C.2.1 dd hv (k p e s m args below meth c H locs ls cells slots C hl hs hS hz hc hn)
theorem ep_astore_n {f : Fin 4} {i x : Nat} (dd : decode (yC zL_law) pc = .ok (.astore_n f, 1)) (hi : (f : Nat) = i) (hn : i < 9) (hq : (i, Value.ref x) :: lv.filter (fun q => !(q.1 == i) && !(q.1 + 1 == i && q.2.category == 2)) = lv') (k : EvP G b w (pc + 1) lv' st es) : EvP G b w pc lv (.ref x :: st) es :=
  fun p e s m args below meth c H locs ls cells slots C hl hs hS hz hc hn9 => lv_astore_n C.1 C.2.1 dd hi hl hn hq (fun ls hl => k p e s m args below meth c H locs ls cells slots C hl hs hS hz hc hn9)
theorem ep_astore {i x : Nat} (dd : decode (yC zL_law) pc = .ok (.astore i, 2)) (hn : i < 9) (hq : (i, Value.ref x) :: lv.filter (fun q => !(q.1 == i) && !(q.1 + 1 == i && q.2.category == 2)) = lv') (k : EvP G b w (pc + 2) lv' st es) : EvP G b w pc lv (.ref x :: st) es :=
  fun p e s m args below meth c H locs ls cells slots C hl hs hS hz hc hn9 => lv_astore C.1 C.2.1 dd hl hn hq (fun ls hl => k p e s m args below meth c H locs ls cells slots C hl hs hS hz hc hn9)
theorem ep_istore {i : Nat} {x : Int32} (dd : decode (yC zL_law) pc = .ok (.istore i, 2)) (hn : i < 9) (hq : (i, Value.int x) :: lv.filter (fun q => !(q.1 == i) && !(q.1 + 1 == i && q.2.category == 2)) = lv') (k : EvP G b w (pc + 2) lv' st es) : EvP G b w pc lv (.int x :: st) es :=
  fun p e s m args below meth c H locs ls cells slots C hl hs hS hz hc hn9 => lv_istore C.1 C.2.1 dd hl hn hq (fun ls hl => k p e s m args below meth c H locs ls cells slots C hl hs hS hz hc hn9)
theorem ep_iconst {n : Int} (dd : decode (yC zL_law) pc = .ok (.iconst n, 1)) (k : EvP G b w (pc + 1) lv (iv n :: st) es) : EvP G b w pc lv st es :=
  fun p e s m args below meth c H locs ls cells slots C hl hs hS hz hc hn => lv_iconst (v := J n) C.1 C.2.1 dd rfl (k p e s m args below meth c H locs ls cells slots C hl hs hS hz hc hn)
/-- a row of one number: long, or double -/
theorem ep_newa {t : Nat} {ty : FieldType} {at9 : ArrayType} {q : Nat} {a9 : vp_A} (dd : decode (yC zL_law) pc = .ok (.newarray at9, 2)) (hty : newarray.typeOf at9 = ty) (hw : Cond.arrayClass ty ∈ lw_all) (ht : (tyG G)[t]? = some (cyG G t, ty)) (hra : va_RA (s0G G) (cyG G t) ty = ((s0G G).vm.findClass ("[" ++ ty.toString) = some (cyG G t)))
    (ha : ∀ cA : ClassId, vp_cell cA a9 = arrV cA 1 (fun _ => defaultValue ty)) (hb : 1 * componentBytes ty ≤ 536870912) (h1 : es.length + 1 ≤ 1000) (h2 : w + 1 ≤ 100000) (hq : bG G + es.length = q)
    (k : EvP G b (w + 1) (pc + 2) lv (.ref q :: st) (es ++ [.inl (cyG G t, a9)])) : EvP G b w pc lv (iv 1 :: st) es := by
  intro p e s m args below meth c H locs ls cells slots C hl hs hS hz hc hn
  have hV := C.2.2.2.2.2.2.2.1
  refine ec_sz (n0 := 0) hs hS hz (by omega) (fun hH => ?_)
  subst hty
  refine va_newaK C.1 C.2.1 (C.2.2.2.2.1 _ hw) rfl dd rfl (N := 1) (by decide) (by decide) hb ?_ ?_ hH (fun H1 cA e1 z1 o1 hAr hNm => ?_)
  · show cells + 1 ≤ 603072
    omega
  · show slots + 1 ≤ 7211114
    omega
  · have hc9 : cA = cyG G t := by
      have h9 := (hV.1.1.2 t _ ht).2
      rw [hra] at h9
      have h8 : s.vm.findClass ("[" ++ (newarray.typeOf at9).toString) = some (cyG G t) := by rw [hV.2.1.alike.findClass]; exact h9
      rw [hNm] at h8
      exact Option.some.inj h8
    subst hq
    subst hc9
    refine k p e s m args below meth c H1 locs ls (cells + 1) (slots + 1) C hl ?_ ⟨Nat.le_trans hS.1 (by omega), fun x h1 h2 => (o1 x (by have := hS.1; omega)).trans (hS.2.1 x h1 h2), hS.2.2⟩ hz (by rw [List.length_append]; show cells + 1 ≤ es.length + 1; omega) (by omega)
    unfold SimE
    rw [← wE_app]
    refine (va_P.kept hs (fun k x hx => o1 x.1 (by have := (hs k x hx).lt; omega))).app (fun k x hx => ?_)
    have h0 : k < 1 := (List.getElem?_eq_some_iff.mp hx).1
    rw [show k = 0 by omega] at hx
    cases hx
    show H1[bG G + es.length]? = some (vp_cell _ _)
    rw [ha]
    exact e1
theorem ep_init {Y' : YT} {idx d' mc' ms' : Nat} {es1 : List va_E} {a : Nat} (hw : inAll [Cond.instanceMethod (yN Y'), Cond.initialized (yN Y').cls, Cond.code (yN Y') (yC Y') (yL Y') (yR Y')] = true) (hlk : Cond.methodLink RL idx (yN Y') ∈ lw_all) (hy : (yN Y').name = "<init>") (hr : yR Y' = none)
    (hd : (yN Y').cls ≠ "java/lang/invoke/MethodHandle" ∧ (yN Y').cls ≠ "java/lang/invoke/VarHandle" ∧ (parseMethodDescriptor (yN Y').desc).map (fun d => d.parameters.length) = some 0) (dd : decode (yC zL_law) pc = .ok (.invokespecial idx, 3)) (hlv : d' ≤ 1000) (hmx : yL Y' ≤ 27) (hst : (st.map fun v => v.category).sum ≤ 8) (h1 : es.length + mc' ≤ 1000) (h2 : w + ms' ≤ 100000) (hlen : es1.length = es.length + mc')
    (hc9 : CallE G d' mc' ms' Y' [.ref a] es es1) (k : EvP G b (w + ms') (pc + 3) lv st es1) : EvP G b w pc lv (.ref a :: st) es := by
  intro p e s m args below meth c H locs ls cells slots C hl hs hS hz hc hn
  have hts := C.2.2.2.2.1
  have hi := inAll_mem hw
  refine ec_sz (n0 := 0) hs hS hz (by omega) (fun hH => ?_)
  have gin : GoodIn lw_all (wsY Y') := all_in (fun w hw => by
      rcases List.mem_cons.mp hw with rfl | hw
      · exact hi _ mm2
      · exact hw)
  have ews : wsY Y' = Cond.code (yN Y') (yC Y') (yL Y') none :: lw_all := by unfold wsY; rw [hr]
  have rmo : (rmC d' mc' ms').frames + 1 ≤ room_1.frames ∧ 8 + (yL Y' + 11) + (rmC d' mc' ms').locals ≤ room_1.locals := ⟨by show d' + 1 ≤ 2048; omega, by show 8 + (yL Y' + 11) + 46 * d' ≤ 94400; omega⟩
  have prs : PreS s H (PcE G [.ref a] es) [.ref a] := ⟨PcE_blind, fun U9 hU hW => ⟨rfl, C.2.2.2.2.2.2.2.1.at hS hU hW, by rw [hU]; exact hs, by rw [hU]; exact hH⟩⟩
  have run : va_Run p (lG G) e room_1 s m args below meth c H locs cells slots mc' ms' (F0 m pc ls (.ref a :: st)) st (QcE G es1 (Value.ref a :: []).toArray) (AG G) :=
    va_runI (b := a) (As := []) (rest := st) ⟨C.1, C.2.1, C.2.2.1, C.2.2.2.1, hts⟩ hc9 (cwI (rm := rmC d' mc' ms') (bytes := yC Y') (maxL := yL Y') (ws' := lw_all) 0 hts gin ews rfl rfl (hts _ (hi _ mm1)) (hts _ hlk) (hts _ (hi _ mm0)) hy hd rmo) prs rfl rfl hl.1 rfl (lv_room hst) dd ⟨by show cells + mc' ≤ 603072; omega, by show slots + ms' ≤ 7211114; omega⟩
  intro T hT X
  obtain ⟨v, st₀, t, T', L, h0, X', hL, e1, e2, ⟨⟨hv, hp, hb⟩, hz9, hk⟩, go⟩ := run T hT X
  cases hv
  rw [h0] at hz9 hk
  obtain ⟨t2, a1, b1⟩ := k p e s m args below meth c T'.heap (locs ++ L) ls (cells + mc') (slots + ms') C hl (by rw [e1]; exact hp) ⟨by rw [e1]; exact Nat.le_trans hS.1 hz9, fun q g1 g2 => by
      rw [e1, hk q (Nat.lt_of_lt_of_le g1 hS.1) (fun z => g2 z)]
      exact hS.2.1 q g1 g2, fun q hq => by
      rcases List.mem_append.mp hq with h | h
      · exact hS.2.2 q h
      · exact hL q h⟩ hz (by omega) (by omega) T' rfl X'
  exact ⟨t2, go t2 a1, b1⟩
/-- the world stands -/
theorem ep_done {u : Nat} (hlen : es = esA G) (h1 : 503 ≤ u) (h2 : w ≤ 6 * u) (k : EvL G b u pc lv st M0) : EvP G b w pc lv st es := by
  intro p e s m args below meth c H locs ls cells slots C hl hs hS hz hc hn
  subst hlen
  have hl5 : (esA G).length = 503 := cov_A.1
  exact k p e s m args below meth c H locs ls cells slots C hl (sim_0 hs) hS (by omega) (by omega)
end Ep
theorem init_law {G : GT} {b L : Nat} {xs : Nat → Int32} (hao : AO G) (hN : NC G) (hX : va_X b L xs (s0G G) (s0G G).heap) (hb : b < bG G) (hL : L ≤ 2560) : EvP G b 0 0 [(0, .ref b)] [] [] := by
  refine ep_new (q := bG G + 0) tyX11 clX11 tyX11_ok fsX11_ok (inA_of (is := [115, 116, 88]) (by decide +kernel)) dL_law_0 (by decide) (by decide) rfl ?_
  refine ep_dup dL_law_3 rfl ?_
  refine ep_init (Y' := zX11_init) (idx := 142) (d' := 5) (mc' := 476) (ms' := 8719) (es1 := [] ++ blkX11 G 0) (inA_of (is := [118, 88, 119]) (by decide +kernel)) (mem_all 117 (tb1 30 (by decide +kernel) rfl) (by decide +kernel)) rfl rfl ⟨by decide, by decide, by decide +kernel⟩ dL_law_4 (by decide) (by decide) (Nat.le_of_ble_eq_true rfl) (by decide) (by decide) (by rw [List.nil_append, blkX11_len]; rfl) (ce_X11 hao []) ?_
  refine ep_astore_n (lv' := [(1, .ref (bG G + 0)), (0, .ref b)]) dL_law_7 rfl (by decide) rfl ?_
  refine ep_new (q := bG G + 477) tyX12 clX12 tyX12_ok fsX12_ok (inA_of (is := [1439, 1440, 102]) (by decide +kernel)) dL_law_8 (by rw [List.nil_append, blkX11_len]; decide) (by decide) (by rw [List.nil_append, blkX11_len]) ?_
  refine ep_dup dL_law_11 rfl ?_
  have c12 := ce_X12 hao ([] ++ blkX11 G 0)
  rw [show (([] : List va_E) ++ blkX11 G 0).length = 477 by rw [List.nil_append, blkX11_len]] at c12
  refine ep_init (Y' := zX12_init) (idx := 145) (d' := 1) (mc' := 23) (ms' := 6724) (es1 := ([] ++ blkX11 G 0) ++ blkX12 G 477) (inA_of (is := [1442, 102, 1443]) (by decide +kernel)) (mem_all 1441 (tb6 154 (by decide +kernel) rfl) (by decide +kernel)) rfl rfl ⟨by decide, by decide, by decide +kernel⟩ dL_law_12 (by decide) (by decide) (Nat.le_of_ble_eq_true rfl) (by rw [List.nil_append, List.length_append, blkX11_len]; decide) (by decide) (by rw [List.nil_append, List.length_append, List.length_append, blkX11_len, blkX12_len]; rfl) c12 ?_
  refine ep_astore_n (lv' := [(2, .ref (bG G + 477)), (1, .ref (bG G + 0)), (0, .ref b)]) dL_law_15 rfl (by decide) rfl ?_
  refine ep_iconst dL_law_16 ?_
  refine ep_newa (t := 5) (ty := .long) (at9 := .long) (q := bG G + 501) (a9 := (1, .inr (.inl (fun _ => 0)))) dL_law_17 rfl (mem_all 2009 (tb9 2 (by decide +kernel) rfl) (by decide +kernel)) rfl rfl (fun _ => rfl) (by decide) (by rw [List.nil_append, List.length_append, blkX11_len, blkX12_len]; decide) (by decide) (by rw [List.nil_append, List.length_append, blkX11_len, blkX12_len]) ?_
  refine ep_astore_n (lv' := [(3, .ref (bG G + 501)), (2, .ref (bG G + 477)), (1, .ref (bG G + 0)), (0, .ref b)]) dL_law_19 rfl (by decide) rfl ?_
  refine ep_iconst dL_law_20 ?_
  refine ep_newa (t := 6) (ty := .double) (at9 := .double) (q := bG G + 502) (a9 := (1, .inr (.inr (.inr (.inl (fun _ => 0)))))) dL_law_21 rfl (mem_all 2010 (tb9 3 (by decide +kernel) rfl) (by decide +kernel)) rfl rfl (fun _ => rfl) (by decide) (by rw [List.nil_append, List.length_append, List.length_append, blkX11_len, blkX12_len]; exact Nat.le_of_ble_eq_true rfl) (by decide) (by rw [List.nil_append, List.length_append, List.length_append, blkX11_len, blkX12_len]; rfl) ?_
  refine ep_astore (lv' := [(4, .ref (bG G + 502)), (3, .ref (bG G + 501)), (2, .ref (bG G + 477)), (1, .ref (bG G + 0)), (0, .ref b)]) dL_law_23 (by decide) rfl ?_
  refine ep_iconst dL_law_25 ?_
  refine ep_istore (lv' := [(5, iv 0), (4, .ref (bG G + 502)), (3, .ref (bG G + 501)), (2, .ref (bG G + 477)), (1, .ref (bG G + 0)), (0, .ref b)]) dL_law_26 (by decide) rfl ?_
  refine ep_done (u := 3000) (by rw [List.nil_append]; rfl) (by decide) (by decide) ?_
  refine ev_sub [5, 4, 3, 2, 1, 0] (lv' := LW G b 0) rfl ?_
  exact law_loop hN hX hb hL 3000 0 3000 M0 rel_0 (by decide) (by omega) (by decide) (by omega)
/-- from the entry -/
theorem whole_start {p : Program} {e : Env} {s : State} {m : MethodId} {below : List Frame} {meth : Method} {c : Code} (l : Launch) (hflags : l.flags = flags0) {b L : Nat} {xs : Nat → Int32} (hL : L ≤ 2560) (C0 : lw_At p s m meth c b L xs) (hcd : c.exceptionTable.toList = tableOf []) : W p l e room_1 s m #[Value.ref b] below meth c s.heap [] 0 0 (lw_Z below #[Value.ref b] s) (entryFrame m ([Value.ref b] : List Value).toArray 9) := by
  obtain ⟨G, hG, hs, hlG⟩ := gok l hflags C0
  obtain ⟨hx, hb, hr, hml, hown, hts, hX, hbl, hlk, hgv⟩ := id C0
  have fl := flat_of_before _ hgv
  have hao : AO G := ⟨#[Value.ref b], by rw [hs]; exact hts _ (List.mem_of_getElem? (i := 299) (tb1 212 (by decide +kernel) rfl)), by rw [hs]; exact hts _ (List.mem_of_getElem? (i := 218) (tb1 131 (by decide +kernel) rfl))⟩
  have hN : NC G := by
    intro q hq
    rw [hs]
    have each : ∀ q ∈ ncL, Cond.not (.castable q.1 q.2) ∈ flatC (Jvm.Cond.and given_1 narrow_1) := by decide +kernel
    exact va_Nc.of (fl _ (each q hq))
  have hlw : ∀ w ∈ lw_all, w.before #[Value.ref b] s = true := fun w h => hts w (List.mem_filter.mp h).1
  have hl := lv_entry [Value.ref b] (n := 9) (Nat.le_of_ble_eq_true rfl)
  rw [show lv_args 0 [Value.ref b] = [(0, .ref b)] from rfl] at hl
  rw [lg_entry_eq]
  have C : Cx G zL_law p s m #[Value.ref b] meth c := ⟨hx, hb, hml, hown, hlw, hr, hlk, ⟨hG, by rw [hs]; exact State.WarmedH.refl _, Nat.le_of_eq (by show (s0G G).heap.size = s.heap.size; rw [hs]), fun q _ => by rw [hs]⟩, hcd⟩
  have k := init_law (G := G) (b := b) (L := L) (xs := xs) hao hN (by rw [hs]; exact hX) (by show b < (s0G G).heap.size; rw [hs]; exact hbl) hL p e s m #[Value.ref b] below meth c s.heap [] _ 0 0 C hl (fun k q hq => by cases hq) va_S.rf (by show s.heap.size = (s0G G).heap.size; rw [hs]) (Nat.le_refl _) (Nat.le_refl _)
  rw [hlG] at k
  intro T hT X
  obtain ⟨t, a1, b1⟩ := k T hT X
  exact ⟨t, a1, b1 ⟨rfl, hs.symm⟩⟩
