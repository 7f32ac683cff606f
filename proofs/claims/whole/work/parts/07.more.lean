/-! ===== throws, the static arrays, the row of kept lines ===== -/
def okW : Cond → Bool
  | .castable _ _ => true
  | .declares _ => true
  | w => goodWord w
theorem okW_before {G : GT} {s : State} {args : Array Value} (hV : GV G s) (hts : ∀ w ∈ lw_all, w.before args s = true) {w : Cond} (hw : w ∈ lw_tbl) (hk : okW w = true) : w.before args s = true := by
  by_cases g : goodWord w = true
  · exact hts w (List.mem_filter.mpr ⟨hw, g⟩)
  · cases w <;> first | exact absurd hk g | exact va_Nw.use rfl (va_Nw.warmC hV.2.1 (hV.1.2.2.2.1 _ hw rfl)) | exact va_Nw.use rfl (va_Nw.warmD hV.2.1 (hV.1.2.2.2.1 _ hw rfl))
abbrev nm2 : List String := ["java/lang/RuntimeException", "java/lang/Exception"]
def exOK (ik ic : Nat) (cls : String) : Prop := ∀ w ∈ Cond.classLink RX11 ik cls :: Cond.initialized cls :: vx_atS RX11 ic cls nm2, (w ∈ lw_tbl ∧ okW w = true) ∧ vx_ot w = true
theorem GV.Zq {G : GT} {s : State} (h : GV G s) {n d : String} (hz : vx_Zq Bundle.tN n d (AG G) (s0G G) (s0G G).heap) : vx_Zq Bundle.tN n d (AG G) s s.heap :=
  (vx_Zq.moved h.2.1.alike hz).kept (fun a ha _ => h.2.2.2 a ha)
theorem Sim.kept {G : GT} {M : Mem} {H H1 : Heap} (h : Sim G M H) (hq : ∀ q : Nat, q < H.size → H1[q]? = H[q]?) : Sim G M H1 := va_P.kept h (fun k q hk => hq _ (h k q hk).lt)
section More9
variable {G : GT} {Y : YT} {d U u : Nat} {K : List Value → Mem → Prop} {X : String → Mem → Prop} {pc : Nat} {lv : List (Nat × Value)} {st : List Value} {M : Mem}
theorem ev_throwS {cls text : String} {ik is ic : Nat} (hY : (yN Y).cls = RX11) (hh : yH Y = []) (hcls : Bundle.fit cls = true) (hat : exOK ik ic cls) (hstr : Cond.stringRef RX11 is text ∈ lw_tbl)
    (d0 : decode (yC Y) pc = .ok (.new ik, 3)) (d3 : decode (yC Y) (pc + 3) = .ok (.dup, 1)) (d4 : decode (yC Y) (pc + 4) = .ok (.ldc is, 2)) (d6 : decode (yC Y) (pc + 6) = .ok (.invokespecial ic, 3)) (d9 : decode (yC Y) (pc + 9) = .ok (.athrow, 1))
    (hfr : 8 ≤ d) (hu : u + 1 ≤ U) (hst : (st.map fun v => v.category).sum ≤ 8) (hx : X cls M) : Ex G Y d U K X u pc lv st M := by
  intro p e s m args below meth c H locs ls cells slots C hl hs hS hc hn
  have hV := C.2.2.2.2.2.2.2.1
  obtain ⟨sa, hsa⟩ := hV.1.2.2.2.2.1 _ _ _ hstr
  have hb : ∀ w ∈ Cond.classLink RX11 ik cls :: Cond.initialized cls :: vx_atS RX11 ic cls nm2, w.before args s = true := fun w hw => okW_before hV C.2.2.2.2.1 (hat w hw).1.1 (hat w hw).1.2
  refine vx_throwS (own := RX11) (names := nm2) (A := AG G) C.1 C.2.1 hV.1.2.1 (by rw [← hY]; exact C.2.2.2.1) hcls (by decide +kernel) (hb _ List.mem_cons_self) (hb _ (List.mem_cons_of_mem _ List.mem_cons_self)) (vk_R.warm hV.2.1 hsa) (fun w hw => hb w (List.mem_cons_of_mem _ (List.mem_cons_of_mem _ hw))) (fun w hw => (hat w hw).2)
    (hV.Zq hV.1.2.2.1.1) (hV.Zq hV.1.2.2.1.2) hS (hl.1.trans C.2.2.1.symm) d0 d3 d4 d6 d9 (fun x hx9 => ?_) ?_ ?_ ?_ ?_ C.2.2.2.2.2.2.1 (fun t _ h1 h2 => ⟨⟨M, hx, hs.kept h2⟩, ⟨Nat.le_trans hS.1 h1, fun q q1 q2 => (h2 q (Nat.lt_of_lt_of_le q1 hS.1)).trans (hS.2.1 q q1 q2)⟩⟩) hS.2.2 (by omega) (by omega)
  · rw [C.2.2.2.2.2.2.2.2, hh] at hx9
    exact absurd hx9 (by show x ∉ tableOf []; exact List.not_mem_nil)
  · show 2 + 3 < d
    omega
  · show _ + (13 * (2 + 1) + 43) ≤ 46 * d
    omega
  · show cells + 1 ≤ U
    omega
  · show slots + 6 ≤ 6 * U
    omega
theorem ev_throwSW {cls text : String} {ik is ic : Nat} (hY : (yN Y).cls = RX11) (hh : yH Y = []) (hcls : Bundle.fit cls = true) (hat : exOK ik ic cls) (hstr : Cond.stringRef RX11 is text ∈ lw_tbl)
    (d0 : decode (yC Y) pc = .ok (.new ik, 3)) (d3 : decode (yC Y) (pc + 3) = .ok (.dup, 1)) (d4 : decode (yC Y) (pc + 4) = .ok (.ldc_w is, 3)) (d6 : decode (yC Y) (pc + 7) = .ok (.invokespecial ic, 3)) (d9 : decode (yC Y) (pc + 10) = .ok (.athrow, 1))
    (hfr : 8 ≤ d) (hu : u + 1 ≤ U) (hst : (st.map fun v => v.category).sum ≤ 8) (hx : X cls M) : Ex G Y d U K X u pc lv st M := by
  intro p e s m args below meth c H locs ls cells slots C hl hs hS hc hn
  have hV := C.2.2.2.2.2.2.2.1
  obtain ⟨sa, hsa⟩ := hV.1.2.2.2.2.1 _ _ _ hstr
  have hb : ∀ w ∈ Cond.classLink RX11 ik cls :: Cond.initialized cls :: vx_atS RX11 ic cls nm2, w.before args s = true := fun w hw => okW_before hV C.2.2.2.2.1 (hat w hw).1.1 (hat w hw).1.2
  refine vx_throwSW (own := RX11) (names := nm2) (A := AG G) C.1 C.2.1 hV.1.2.1 (by rw [← hY]; exact C.2.2.2.1) hcls (by decide +kernel) (hb _ List.mem_cons_self) (hb _ (List.mem_cons_of_mem _ List.mem_cons_self)) (vk_R.warm hV.2.1 hsa) (fun w hw => hb w (List.mem_cons_of_mem _ (List.mem_cons_of_mem _ hw))) (fun w hw => (hat w hw).2)
    (hV.Zq hV.1.2.2.1.1) (hV.Zq hV.1.2.2.1.2) hS (hl.1.trans C.2.2.1.symm) d0 d3 d4 d6 d9 (fun x hx9 => ?_) ?_ ?_ ?_ ?_ C.2.2.2.2.2.2.1 (fun t _ h1 h2 => ⟨⟨M, hx, hs.kept h2⟩, ⟨Nat.le_trans hS.1 h1, fun q q1 q2 => (h2 q (Nat.lt_of_lt_of_le q1 hS.1)).trans (hS.2.1 q q1 q2)⟩⟩) hS.2.2 (by omega) (by omega)
  · rw [C.2.2.2.2.2.2.2.2, hh] at hx9
    exact absurd hx9 (by show x ∉ tableOf []; exact List.not_mem_nil)
  · show 2 + 3 < d
    omega
  · show _ + (13 * (2 + 1) + 43) ≤ 46 * d
    omega
  · show cells + 1 ≤ U
    omega
  · show slots + 6 ≤ 6 * U
    omega
/-- a static array's address, and what it holds -/
def SAx (G : GT) (t : Nat) (l : List Int) : Prop := va_T .int t 3 (fun k => .int (J (l.getD k 0))) (AG G) (s0G G) (s0G G).heap
theorem ev_sget {nm : String} {l : List Int} {idx : Nat} (hs9 : GOK G → SA G nm l) (hlk : Cond.fieldLink (yN Y).cls idx "TramLines" nm "[I" ∈ lw_all) (dd : decode (yC Y) pc = .ok (.getstatic idx, 3))
    (k : ∀ t, SAx G t l → Ex G Y d U K X u (pc + 3) lv (.ref t :: st) M) : Ex G Y d U K X u pc lv st M := by
  intro p e s m args below meth c H locs ls cells slots C hl hs hS hc hn
  have hV := C.2.2.2.2.2.2.2.1
  obtain ⟨t, hz, ht⟩ := hs9 hV.1
  have hz' : va_Z "TramLines" nm "[I" (.ref t) (AG G) s s.heap := (va_Z.moved hV.2.1.alike hz).kept (fun a ha _ => hV.2.2.2 a ha)
  exact va_gets C.1 C.2.1 hz' hS C.2.2.2.1 (C.2.2.2.2.1 _ hlk) (fun _ h => h) dd (k t ht p e s m args below meth c H locs ls cells slots C hl hs hS hc hn)
theorem ev_sald {t : Nat} {l : List Int} {k : Int} (ht : SAx G t l) (dd : decode (yC Y) pc = .ok (.iaload, 1)) (h0 : 0 ≤ k) (h1 : k < 3) (kk : Ex G Y d U K X u (pc + 1) lv (iv (l.getD k.toNat 0) :: st) M) : Ex G Y d U K X u pc lv (iv k :: .ref t :: st) M := by
  intro p e s m args below meth c H locs ls cells slots C hl hs hS hc hn
  have hV := C.2.2.2.2.2.2.2.1
  have hi : I32 k := by unfold I32; omega
  have ht' : va_T .int t 3 (fun k => .int (J (l.getD k 0))) (AG G) s s.heap := (va_T.moved hV.2.1.alike ht).kept (fun a ha _ => hV.2.2.2 a ha)
  exact va_ti (v := iv (l.getD k.toNat 0)) C.1 C.2.1 ht' hS (J_in h0 (by omega) (by omega)) (by rw [J_clamp hi]) dd (kk p e s m args below meth c H locs ls cells slots C hl hs hS hc hn)
/-- a line into the row of kept ones -/
theorem ev_aastK {k j : Int} (dd : decode (yC Y) pc = .ok (.aastore, 1)) (h0 : 0 ≤ k) (h1 : k < 8) (hj0 : 0 ≤ j) (hj1 : j < 12) (kk : Ex G Y d U K X u (pc + 1) lv st (wr M 2 0 1 k j)) : Ex G Y d U K X u pc lv (rr G 1 j 0 :: iv k :: rr G 2 0 1 :: st) M := by
  intro p e s m args below meth c H locs ls cells slots C hl hs hS hc hn
  have hi : I32 k := by unfold I32; omega
  have hd : dom 2 0 1 := ⟨by decide, by decide, by decide⟩
  have hdj : dom 1 j 0 := dom1 hj0 hj1 (by decide) (by decide)
  refine va_astq C.1 C.2.1 C.2.2.2.2.2.2.2.1.K hs wd_D hS (off 2 0 1) 3 (off 1 j 0) 6 (n := 8) (cA := cyG G 3) (f := fun q : Nat => some (ad G 1 (M 2 0 1 (q : Int)) 0)) (r := (RX4, TX4, 4)) (wd_at hd) rfl (wd_at hdj) rfl (J_in h0 (by omega) (by omega)) dd (fun H1 locs1 hP hD hS => ?_)
  have e9 : (Sum.inl (cyG G 3, 8, Sum.inr (Sum.inr (Sum.inr (Sum.inr (va_up (fun q : Nat => some (ad G 1 (M 2 0 1 (q : Int)) 0)) (J k).toNatClampNeg (some (ad G 1 j 0))))))) : va_E) = entR G 2 0 (1 : Int).toNat (upI (M 2 0 1) k j) := by
    rw [J_clamp hi]
    show _ = aQ (cyG G 3) 8 (fun q : Nat => some (ad G 1 (upI (M 2 0 1) k j (q : Int)) 0))
    congr 7
    funext q
    unfold va_up upI
    by_cases hq : q = k.toNat
    · rw [if_pos hq, if_pos (by omega)]
    · rw [if_neg hq, if_neg (by omega)]
  rw [e9, wd_set hd] at hP
  exact kk p e s m args below meth c H1 locs1 ls cells slots C hl hP hS hc hn
theorem ev_ldcw {v9 : Int} {x : Int32} {idx : Nat} (hk : Cond.constant (yN Y).cls idx x ∈ lw_all) (dd : decode (yC Y) pc = .ok (.ldc_w idx, 3)) (hx : x = J v9) (k : Ex G Y d U K X u (pc + 3) lv (iv v9 :: st) M) : Ex G Y d U K X u pc lv st M := by
  intro p e s m args below meth c H locs ls cells slots C hl hs hS hc9 hn9
  subst hx
  exact lv_ldcw C.1 C.2.1 C.2.2.2.1 (C.2.2.2.2.1 _ hk) dd (k p e s m args below meth c H locs ls cells slots C hl hs hS hc9 hn9)
theorem ev_topI {a b : Int} (h : a = b) (k : Ex G Y d U K X u pc lv (iv b :: st) M) : Ex G Y d U K X u pc lv (iv a :: st) M := h ▸ k
end More9
-- what every throwable has in common is looked up once
def exP (w : Cond) : Bool := decide (w ∈ lw_tbl) && okW w && vx_ot w
def exT : List Cond := Bundle.throwableAtoms ++ Bundle.throwableSAtoms
theorem exT_ok : (exT.filter vx_no).all exP = true := by decide +kernel
theorem ex_put {l l' : List Cond} {a b : Cond} (hl : ∃ c : List Cond, l = exT ++ c) (h : (a :: b :: ((l.drop exT.length).filter vx_no)).all exP = true) (e : l' = l.filter vx_no) : (a :: b :: l').all exP = true := by
  obtain ⟨c, rfl⟩ := hl
  subst e
  rw [List.drop_left] at h
  simp only [List.all_cons, Bool.and_eq_true] at h
  simp only [List.all_cons, Bool.and_eq_true, List.filter_append, List.all_append]
  exact ⟨h.1, h.2.1, exT_ok, h.2.2⟩
theorem ex_own (own : String) (ic : Nat) (X : String) (names : List String) : ∃ c : List Cond, Bundle.ownAtoms own ic X names = exT ++ c := ⟨_, List.append_assoc _ _ _⟩
-- the classes of exceptions, and a row a throw (by program)
theorem ex_ArithmeticExceptionB : ((Cond.classLink RX11 257 "java/lang/ArithmeticException" :: Cond.initialized "java/lang/ArithmeticException" :: vx_atS RX11 259 "java/lang/ArithmeticException" nm2)).all exP = true := ex_put (ex_own _ _ _ _) (by decide +kernel) rfl
theorem ex_ArithmeticException : exOK 257 259 "java/lang/ArithmeticException" := fun w hw => by
  have h := List.all_eq_true.mp ex_ArithmeticExceptionB w hw
  simp only [exP, Bool.and_eq_true, decide_eq_true_eq] at h
  exact h
theorem ex_IllegalArgumentExceptionB : ((Cond.classLink RX11 73 "java/lang/IllegalArgumentException" :: Cond.initialized "java/lang/IllegalArgumentException" :: vx_atS RX11 77 "java/lang/IllegalArgumentException" nm2)).all exP = true := ex_put (ex_own _ _ _ _) (by decide +kernel) rfl
theorem ex_IllegalArgumentException : exOK 73 77 "java/lang/IllegalArgumentException" := fun w hw => by
  have h := List.all_eq_true.mp ex_IllegalArgumentExceptionB w hw
  simp only [exP, Bool.and_eq_true, decide_eq_true_eq] at h
  exact h
theorem ex_IllegalStateExceptionB : ((Cond.classLink RX11 101 "java/lang/IllegalStateException" :: Cond.initialized "java/lang/IllegalStateException" :: vx_atS RX11 105 "java/lang/IllegalStateException" nm2)).all exP = true := ex_put (ex_own _ _ _ _) (by decide +kernel) rfl
theorem ex_IllegalStateException : exOK 101 105 "java/lang/IllegalStateException" := fun w hw => by
  have h := List.all_eq_true.mp ex_IllegalStateExceptionB w hw
  simp only [exP, Bool.and_eq_true, decide_eq_true_eq] at h
  exact h
theorem ex_IndexOutOfBoundsExceptionB : ((Cond.classLink RX11 109 "java/lang/IndexOutOfBoundsException" :: Cond.initialized "java/lang/IndexOutOfBoundsException" :: vx_atS RX11 113 "java/lang/IndexOutOfBoundsException" nm2)).all exP = true := ex_put (ex_own _ _ _ _) (by decide +kernel) rfl
theorem ex_IndexOutOfBoundsException : exOK 109 113 "java/lang/IndexOutOfBoundsException" := fun w hw => by
  have h := List.all_eq_true.mp ex_IndexOutOfBoundsExceptionB w hw
  simp only [exP, Bool.and_eq_true, decide_eq_true_eq] at h
  exact h
theorem ex_UnsupportedOperationExceptionB : ((Cond.classLink RX11 271 "java/lang/UnsupportedOperationException" :: Cond.initialized "java/lang/UnsupportedOperationException" :: vx_atS RX11 275 "java/lang/UnsupportedOperationException" nm2)).all exP = true := ex_put (ex_own _ _ _ _) (by decide +kernel) rfl
theorem ex_UnsupportedOperationException : exOK 271 275 "java/lang/UnsupportedOperationException" := fun w hw => by
  have h := List.all_eq_true.mp ex_UnsupportedOperationExceptionB w hw
  simp only [exP, Bool.and_eq_true, decide_eq_true_eq] at h
  exact h
theorem thrX11_addTrip_25 {G : GT} {K : List Value → Mem → Prop} {X : String → Mem → Prop} {u : Nat} {lv : List (Nat × Value)} {M : Mem} (hu : u + 1 ≤ 3) (h : X "java/lang/IllegalArgumentException" M) : Ex G zX11_addTrip 9 3 K X u 25 lv [] M :=
  ev_throwS (text := "such a trip is not allowed") rfl rfl (by decide +kernel) ex_IllegalArgumentException (List.mem_of_getElem? (i := 855) (tb4 48 (by decide +kernel) rfl)) dX11_addTrip_25 dX11_addTrip_28 dX11_addTrip_29 dX11_addTrip_31 dX11_addTrip_34 (by decide) hu (by decide) h
theorem thrX11_addTrip_50 {G : GT} {K : List Value → Mem → Prop} {X : String → Mem → Prop} {u : Nat} {lv : List (Nat × Value)} {M : Mem} (hu : u + 1 ≤ 3) (h : X "java/lang/IllegalStateException" M) : Ex G zX11_addTrip 9 3 K X u 50 lv [] M :=
  ev_throwS (text := "the trips are full") rfl rfl (by decide +kernel) ex_IllegalStateException (List.mem_of_getElem? (i := 856) (tb4 49 (by decide +kernel) rfl)) dX11_addTrip_50 dX11_addTrip_53 dX11_addTrip_54 dX11_addTrip_56 dX11_addTrip_59 (by decide) hu (by decide) h
theorem thrX11_addVehicle_20 {G : GT} {K : List Value → Mem → Prop} {X : String → Mem → Prop} {u : Nat} {lv : List (Nat × Value)} {M : Mem} (hu : u + 1 ≤ 2) (h : X "java/lang/IllegalStateException" M) : Ex G zX11_addVehicle 9 2 K X u 20 lv [] M :=
  ev_throwSW (text := "the vehicles are full") rfl rfl (by decide +kernel) ex_IllegalStateException (List.mem_of_getElem? (i := 1039) (tb4 232 (by decide +kernel) rfl)) dX11_addVehicle_20 dX11_addVehicle_23 dX11_addVehicle_24 dX11_addVehicle_27 dX11_addVehicle_30 (by decide) hu (by decide) h
theorem thrX11_append_10 {G : GT} {K : List Value → Mem → Prop} {X : String → Mem → Prop} {u : Nat} {lv : List (Nat × Value)} {M : Mem} (hu : u + 1 ≤ 1) (h : X "java/lang/IllegalStateException" M) : Ex G zX11_append 8 1 K X u 10 lv [] M :=
  ev_throwSW (text := "the text buffer is full") rfl rfl (by decide +kernel) ex_IllegalStateException (List.mem_of_getElem? (i := 1372) (tb6 85 (by decide +kernel) rfl)) dX11_append_10 dX11_append_13 dX11_append_14 dX11_append_17 dX11_append_20 (by decide) hu (by decide) h
theorem thrX11_block_28 {G : GT} {K : List Value → Mem → Prop} {X : String → Mem → Prop} {u : Nat} {lv : List (Nat × Value)} {M : Mem} (hu : u + 1 ≤ 2) (h : X "java/lang/IllegalArgumentException" M) : Ex G zX11_block 9 2 K X u 28 lv [] M :=
  ev_throwSW (text := "a minute is out of range") rfl rfl (by decide +kernel) ex_IllegalArgumentException (List.mem_of_getElem? (i := 1181) (tb5 134 (by decide +kernel) rfl)) dX11_block_28 dX11_block_31 dX11_block_32 dX11_block_35 dX11_block_38 (by decide) hu (by decide) h
theorem thrX11_block_54 {G : GT} {K : List Value → Mem → Prop} {X : String → Mem → Prop} {u : Nat} {lv : List (Nat × Value)} {M : Mem} (hu : u + 1 ≤ 2) (h : X "java/lang/IllegalStateException" M) : Ex G zX11_block 9 2 K X u 54 lv [] M :=
  ev_throwSW (text := "the blocks are full") rfl rfl (by decide +kernel) ex_IllegalStateException (List.mem_of_getElem? (i := 1182) (tb5 135 (by decide +kernel) rfl)) dX11_block_54 dX11_block_57 dX11_block_58 dX11_block_61 dX11_block_64 (by decide) hu (by decide) h
theorem thrX11_cancel_29 {G : GT} {K : List Value → Mem → Prop} {X : String → Mem → Prop} {u : Nat} {lv : List (Nat × Value)} {M : Mem} (hu : u + 1 ≤ 2) (h : X "java/lang/IllegalStateException" M) : Ex G zX11_cancel 9 2 K X u 29 lv [] M :=
  ev_throwS (text := "trips cannot turn at one of its stops") rfl rfl (by decide +kernel) ex_IllegalStateException (List.mem_of_getElem? (i := 872) (tb4 65 (by decide +kernel) rfl)) dX11_cancel_29 dX11_cancel_32 dX11_cancel_33 dX11_cancel_35 dX11_cancel_38 (by decide) hu (by decide) h
theorem thrX11_count_121 {G : GT} {K : List Value → Mem → Prop} {X : String → Mem → Prop} {u : Nat} {lv : List (Nat × Value)} {M : Mem} (hu : u + 1 ≤ 1) (h : X "java/lang/IllegalArgumentException" M) : Ex G zX11_count 8 1 K X u 121 lv [] M :=
  ev_throwS (text := "no such number") rfl rfl (by decide +kernel) ex_IllegalArgumentException (List.mem_of_getElem? (i := 957) (tb4 150 (by decide +kernel) rfl)) dX11_count_121 dX11_count_124 dX11_count_125 dX11_count_127 dX11_count_130 (by decide) hu (by decide) h
theorem thrX11_exchange_33 {G : GT} {K : List Value → Mem → Prop} {X : String → Mem → Prop} {u : Nat} {lv : List (Nat × Value)} {M : Mem} (hu : u + 1 ≤ 3) (h : X "java/lang/IllegalArgumentException" M) : Ex G zX11_exchange 9 3 K X u 33 lv [] M :=
  ev_throwSW (text := "both vehicles are the same") rfl rfl (by decide +kernel) ex_IllegalArgumentException (List.mem_of_getElem? (i := 1119) (tb5 72 (by decide +kernel) rfl)) dX11_exchange_33 dX11_exchange_36 dX11_exchange_37 dX11_exchange_40 dX11_exchange_43 (by decide) hu (by decide) h
theorem thrX11_exchange_133 {G : GT} {K : List Value → Mem → Prop} {X : String → Mem → Prop} {u : Nat} {lv : List (Nat × Value)} {M : Mem} (hu : u + 1 ≤ 3) (h : X "java/lang/IllegalStateException" M) : Ex G zX11_exchange 9 3 K X u 133 lv [] M :=
  ev_throwS (text := "a duty would not be sound") rfl rfl (by decide +kernel) ex_IllegalStateException (List.mem_of_getElem? (i := 807) (tb4 0 (by decide +kernel) rfl)) dX11_exchange_133 dX11_exchange_136 dX11_exchange_137 dX11_exchange_139 dX11_exchange_142 (by decide) hu (by decide) h
theorem thrX11_give_47 {G : GT} {K : List Value → Mem → Prop} {X : String → Mem → Prop} {u : Nat} {lv : List (Nat × Value)} {M : Mem} (hu : u + 1 ≤ 3) (h : X "java/lang/UnsupportedOperationException" M) : Ex G zX11_give 9 3 K X u 47 lv [] M :=
  ev_throwSW (text := "the trip is refused") rfl rfl (by decide +kernel) ex_UnsupportedOperationException (List.mem_of_getElem? (i := 1067) (tb5 20 (by decide +kernel) rfl)) dX11_give_47 dX11_give_50 dX11_give_51 dX11_give_54 dX11_give_57 (by decide) hu (by decide) h
theorem thrX11_giveRound_65 {G : GT} {K : List Value → Mem → Prop} {X : String → Mem → Prop} {u : Nat} {lv : List (Nat × Value)} {M : Mem} (hu : u + 1 ≤ 4) (h : X "java/lang/UnsupportedOperationException" M) : Ex G zX11_giveRound 9 4 K X u 65 lv [] M :=
  ev_throwSW (text := "the round is refused") rfl rfl (by decide +kernel) ex_UnsupportedOperationException (List.mem_of_getElem? (i := 1087) (tb5 40 (by decide +kernel) rfl)) dX11_giveRound_65 dX11_giveRound_68 dX11_giveRound_69 dX11_giveRound_72 dX11_giveRound_75 (by decide) hu (by decide) h
theorem thrX11_leastCost_11 {G : GT} {K : List Value → Mem → Prop} {X : String → Mem → Prop} {u : Nat} {lv : List (Nat × Value)} {M : Mem} (hu : u + 1 ≤ 1) (h : X "java/lang/IllegalArgumentException" M) : Ex G zX11_leastCost 8 1 K X u 11 lv [] M :=
  ev_throwSW (text := "the price is out of range") rfl rfl (by decide +kernel) ex_IllegalArgumentException (List.mem_of_getElem? (i := 1341) (tb6 54 (by decide +kernel) rfl)) dX11_leastCost_11 dX11_leastCost_14 dX11_leastCost_15 dX11_leastCost_18 dX11_leastCost_21 (by decide) hu (by decide) h
theorem thrX11_meanDelay_23 {G : GT} {K : List Value → Mem → Prop} {X : String → Mem → Prop} {u : Nat} {lv : List (Nat × Value)} {M : Mem} (hu : u + 1 ≤ 1) (h : X "java/lang/ArithmeticException" M) : Ex G zX11_meanDelay 8 1 K X u 23 lv [] M :=
  ev_throwSW (text := "no trip arrives") rfl rfl (by decide +kernel) ex_ArithmeticException (List.mem_of_getElem? (i := 1307) (tb6 20 (by decide +kernel) rfl)) dX11_meanDelay_23 dX11_meanDelay_26 dX11_meanDelay_27 dX11_meanDelay_30 dX11_meanDelay_33 (by decide) hu (by decide) h
theorem thrX11_meanHeadway_39 {G : GT} {K : List Value → Mem → Prop} {X : String → Mem → Prop} {u : Nat} {lv : List (Nat × Value)} {M : Mem} (hu : u + 1 ≤ 3) (h : X "java/lang/ArithmeticException" M) : Ex G zX11_meanHeadway 9 3 K X u 39 lv [] M :=
  ev_throwS (text := "no headway") rfl rfl (by decide +kernel) ex_ArithmeticException (List.mem_of_getElem? (i := 993) (tb4 186 (by decide +kernel) rfl)) dX11_meanHeadway_39 dX11_meanHeadway_42 dX11_meanHeadway_43 dX11_meanHeadway_45 dX11_meanHeadway_48 (by decide) hu (by decide) h
theorem thrX11_readTrips_18 {G : GT} {K : List Value → Mem → Prop} {X : String → Mem → Prop} {u : Nat} {lv : List (Nat × Value)} {M : Mem} (hu : u + 1 ≤ 1) (h : X "java/lang/IllegalArgumentException" M) : Ex G zX11_readTrips 8 1 K X u 18 lv [] M :=
  ev_throwSW (text := "the text has a fault") rfl rfl (by decide +kernel) ex_IllegalArgumentException (List.mem_of_getElem? (i := 1403) (tb6 116 (by decide +kernel) rfl)) dX11_readTrips_18 dX11_readTrips_21 dX11_readTrips_22 dX11_readTrips_25 dX11_readTrips_28 (by decide) hu (by decide) h
theorem thrX11_readTrips_43 {G : GT} {K : List Value → Mem → Prop} {X : String → Mem → Prop} {u : Nat} {lv : List (Nat × Value)} {M : Mem} (hu : u + 1 ≤ 1) (h : X "java/lang/IllegalStateException" M) : Ex G zX11_readTrips 8 1 K X u 43 lv [] M :=
  ev_throwSW (text := "a trip of the text cannot be added") rfl rfl (by decide +kernel) ex_IllegalStateException (List.mem_of_getElem? (i := 1409) (tb6 122 (by decide +kernel) rfl)) dX11_readTrips_43 dX11_readTrips_46 dX11_readTrips_47 dX11_readTrips_50 dX11_readTrips_53 (by decide) hu (by decide) h
theorem thrX11_requireIndex_9 {G : GT} {K : List Value → Mem → Prop} {X : String → Mem → Prop} {u : Nat} {lv : List (Nat × Value)} {M : Mem} (hu : u + 1 ≤ 1) (h : X "java/lang/IndexOutOfBoundsException" M) : Ex G zX11_requireIndex 8 1 K X u 9 lv [] M :=
  ev_throwSW (text := "there is nothing of this number") rfl rfl (by decide +kernel) ex_IndexOutOfBoundsException (List.mem_of_getElem? (i := 762) (tb3 195 (by decide +kernel) rfl)) dX11_requireIndex_9 dX11_requireIndex_12 dX11_requireIndex_13 dX11_requireIndex_16 dX11_requireIndex_19 (by decide) hu (by decide) h
theorem thrX11_restore_10 {G : GT} {K : List Value → Mem → Prop} {X : String → Mem → Prop} {u : Nat} {lv : List (Nat × Value)} {M : Mem} (hu : u + 1 ≤ 1) (h : X "java/lang/IllegalStateException" M) : Ex G zX11_restore 8 1 K X u 10 lv [] M :=
  ev_throwSW (text := "there is no snapshot") rfl rfl (by decide +kernel) ex_IllegalStateException (List.mem_of_getElem? (i := 1434) (tb6 147 (by decide +kernel) rfl)) dX11_restore_10 dX11_restore_13 dX11_restore_14 dX11_restore_17 dX11_restore_20 (by decide) hu (by decide) h
theorem thrX11_run_10 {G : GT} {K : List Value → Mem → Prop} {X : String → Mem → Prop} {u : Nat} {lv : List (Nat × Value)} {M : Mem} (hu : u + 1 ≤ 1) (h : X "java/lang/IllegalArgumentException" M) : Ex G zX11_run 8 1 K X u 10 lv [] M :=
  ev_throwSW (text := "the run has no such number") rfl rfl (by decide +kernel) ex_IllegalArgumentException (List.mem_of_getElem? (i := 1272) (tb5 225 (by decide +kernel) rfl)) dX11_run_10 dX11_run_13 dX11_run_14 dX11_run_17 dX11_run_20 (by decide) hu (by decide) h
theorem thrX11_set_22 {G : GT} {K : List Value → Mem → Prop} {X : String → Mem → Prop} {u : Nat} {lv : List (Nat × Value)} {M : Mem} (hu : u + 1 ≤ 2) (h : X "java/lang/IllegalArgumentException" M) : Ex G zX11_set 9 2 K X u 22 lv [] M :=
  ev_throwS (text := "the value is out of range") rfl rfl (by decide +kernel) ex_IllegalArgumentException (List.mem_of_getElem? (i := 842) (tb4 35 (by decide +kernel) rfl)) dX11_set_22 dX11_set_25 dX11_set_26 dX11_set_28 dX11_set_31 (by decide) hu (by decide) h
theorem thrX11_set_79 {G : GT} {K : List Value → Mem → Prop} {X : String → Mem → Prop} {u : Nat} {lv : List (Nat × Value)} {M : Mem} (hu : u + 1 ≤ 2) (h : X "java/lang/IllegalStateException" M) : Ex G zX11_set 9 2 K X u 79 lv [] M :=
  ev_throwS (text := "a duty would not be sound") rfl rfl (by decide +kernel) ex_IllegalStateException (List.mem_of_getElem? (i := 807) (tb4 0 (by decide +kernel) rfl)) dX11_set_79 dX11_set_82 dX11_set_83 dX11_set_85 dX11_set_88 (by decide) hu (by decide) h
theorem thrX11_setSection_26 {G : GT} {K : List Value → Mem → Prop} {X : String → Mem → Prop} {u : Nat} {lv : List (Nat × Value)} {M : Mem} (hu : u + 1 ≤ 2) (h : X "java/lang/IllegalArgumentException" M) : Ex G zX11_setSection 9 2 K X u 26 lv [] M :=
  ev_throwS (text := "a time is out of range") rfl rfl (by decide +kernel) ex_IllegalArgumentException (List.mem_of_getElem? (i := 778) (tb3 211 (by decide +kernel) rfl)) dX11_setSection_26 dX11_setSection_29 dX11_setSection_30 dX11_setSection_32 dX11_setSection_35 (by decide) hu (by decide) h
theorem thrX11_setSection_113 {G : GT} {K : List Value → Mem → Prop} {X : String → Mem → Prop} {u : Nat} {lv : List (Nat × Value)} {M : Mem} (hu : u + 1 ≤ 2) (h : X "java/lang/IllegalStateException" M) : Ex G zX11_setSection 9 2 K X u 113 lv [] M :=
  ev_throwS (text := "a duty would not be sound") rfl rfl (by decide +kernel) ex_IllegalStateException (List.mem_of_getElem? (i := 807) (tb4 0 (by decide +kernel) rfl)) dX11_setSection_113 dX11_setSection_116 dX11_setSection_117 dX11_setSection_119 dX11_setSection_122 (by decide) hu (by decide) h
theorem thrX11_setTurn_10 {G : GT} {K : List Value → Mem → Prop} {X : String → Mem → Prop} {u : Nat} {lv : List (Nat × Value)} {M : Mem} (hu : u + 1 ≤ 1) (h : X "java/lang/IndexOutOfBoundsException" M) : Ex G zX11_setTurn 8 1 K X u 10 lv [] M :=
  ev_throwS (text := "no stop between the ends of the line") rfl rfl (by decide +kernel) ex_IndexOutOfBoundsException (List.mem_of_getElem? (i := 825) (tb4 18 (by decide +kernel) rfl)) dX11_setTurn_10 dX11_setTurn_13 dX11_setTurn_14 dX11_setTurn_16 dX11_setTurn_19 (by decide) hu (by decide) h
theorem thrX11_setTurn_38 {G : GT} {K : List Value → Mem → Prop} {X : String → Mem → Prop} {u : Nat} {lv : List (Nat × Value)} {M : Mem} (hu : u + 1 ≤ 1) (h : X "java/lang/IllegalStateException" M) : Ex G zX11_setTurn 8 1 K X u 38 lv [] M :=
  ev_throwS (text := "an active trip begins or ends there") rfl rfl (by decide +kernel) ex_IllegalStateException (List.mem_of_getElem? (i := 830) (tb4 23 (by decide +kernel) rfl)) dX11_setTurn_38 dX11_setTurn_41 dX11_setTurn_42 dX11_setTurn_44 dX11_setTurn_47 (by decide) hu (by decide) h
theorem thrX11_startLate_44 {G : GT} {K : List Value → Mem → Prop} {X : String → Mem → Prop} {u : Nat} {lv : List (Nat × Value)} {M : Mem} (hu : u + 1 ≤ 2) (h : X "java/lang/IllegalArgumentException" M) : Ex G zX11_startLate 9 2 K X u 44 lv [] M :=
  ev_throwSW (text := "the trip cannot be started there") rfl rfl (by decide +kernel) ex_IllegalArgumentException (List.mem_of_getElem? (i := 1332) (tb6 45 (by decide +kernel) rfl)) dX11_startLate_44 dX11_startLate_47 dX11_startLate_48 dX11_startLate_51 dX11_startLate_54 (by decide) hu (by decide) h
theorem thrX11_startLate_72 {G : GT} {K : List Value → Mem → Prop} {X : String → Mem → Prop} {u : Nat} {lv : List (Nat × Value)} {M : Mem} (hu : u + 1 ≤ 2) (h : X "java/lang/IllegalArgumentException" M) : Ex G zX11_startLate 9 2 K X u 72 lv [] M :=
  ev_throwSW (text := "the departure would be too late") rfl rfl (by decide +kernel) ex_IllegalArgumentException (List.mem_of_getElem? (i := 1333) (tb6 46 (by decide +kernel) rfl)) dX11_startLate_72 dX11_startLate_75 dX11_startLate_76 dX11_startLate_79 dX11_startLate_82 (by decide) hu (by decide) h
theorem thrX11_trip_149 {G : GT} {K : List Value → Mem → Prop} {X : String → Mem → Prop} {u : Nat} {lv : List (Nat × Value)} {M : Mem} (hu : u + 1 ≤ 2) (h : X "java/lang/IllegalArgumentException" M) : Ex G zX11_trip 9 2 K X u 149 lv [] M :=
  ev_throwS (text := "a trip has no such number") rfl rfl (by decide +kernel) ex_IllegalArgumentException (List.mem_of_getElem? (i := 898) (tb4 91 (by decide +kernel) rfl)) dX11_trip_149 dX11_trip_152 dX11_trip_153 dX11_trip_155 dX11_trip_158 (by decide) hu (by decide) h
theorem thrX11_turnShort_44 {G : GT} {K : List Value → Mem → Prop} {X : String → Mem → Prop} {u : Nat} {lv : List (Nat × Value)} {M : Mem} (hu : u + 1 ≤ 2) (h : X "java/lang/IllegalArgumentException" M) : Ex G zX11_turnShort 9 2 K X u 44 lv [] M :=
  ev_throwSW (text := "the trip cannot be turned there") rfl rfl (by decide +kernel) ex_IllegalArgumentException (List.mem_of_getElem? (i := 1320) (tb6 33 (by decide +kernel) rfl)) dX11_turnShort_44 dX11_turnShort_47 dX11_turnShort_48 dX11_turnShort_51 dX11_turnShort_54 (by decide) hu (by decide) h
theorem thrX11_undo_10 {G : GT} {K : List Value → Mem → Prop} {X : String → Mem → Prop} {u : Nat} {lv : List (Nat × Value)} {M : Mem} (hu : u + 1 ≤ 1) (h : X "java/lang/IllegalStateException" M) : Ex G zX11_undo 8 1 K X u 10 lv [] M :=
  ev_throwSW (text := "no change is kept") rfl rfl (by decide +kernel) ex_IllegalStateException (List.mem_of_getElem? (i := 1422) (tb6 135 (by decide +kernel) rfl)) dX11_undo_10 dX11_undo_13 dX11_undo_14 dX11_undo_17 dX11_undo_20 (by decide) hu (by decide) h
theorem thrX11_vehicle_138 {G : GT} {K : List Value → Mem → Prop} {X : String → Mem → Prop} {u : Nat} {lv : List (Nat × Value)} {M : Mem} (hu : u + 1 ≤ 2) (h : X "java/lang/IllegalArgumentException" M) : Ex G zX11_vehicle 9 2 K X u 138 lv [] M :=
  ev_throwSW (text := "a vehicle has no such number") rfl rfl (by decide +kernel) ex_IllegalArgumentException (List.mem_of_getElem? (i := 1161) (tb5 114 (by decide +kernel) rfl)) dX11_vehicle_138 dX11_vehicle_141 dX11_vehicle_142 dX11_vehicle_145 dX11_vehicle_148 (by decide) hu (by decide) h
