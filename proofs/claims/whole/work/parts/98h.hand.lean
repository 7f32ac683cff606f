/-! ===== the law's instructions; methods with handlers ===== -/
abbrev wsH (Y : YT) : List Cond := Cond.codeWith (yN Y) (yC Y) (yL Y) (yR Y) (yH Y) :: lw_all
def CallH (G : GT) (d u : Nat) (Y : YT) (args : List Value) (M : Mem) (K : List Value → Mem → Prop) (X : String → Mem → Prop) : Prop :=
  vx_Met (lG G) (yN Y) (wsH Y) (rmD d u) (PcN G args M) (QcN G K) (XcN G X) u (6 * u) (AG G)
/-- which throws are no such things -/
def ncL : List (String × String) := [(eIA, eIX), (eIS, eIX), (eIS, eIA), (nsE, eIX), (eAR, eIX), (eUO, eIX)]
def NC (G : GT) : Prop := ∀ q ∈ ncL, va_Nc q.1 q.2 (s0G G)
section Hd
variable {G : GT} {Y : YT} {d U u : Nat} {K : List Value → Mem → Prop} {X : String → Mem → Prop} {pc : Nat} {lv : List (Nat × Value)} {st : List Value} {M : Mem}
theorem callH_intro {args : List Value} (hy : plainName (yN Y).cls = true) (hlen : (lg_sl args).length ≤ yL Y) (hlv : lv_args 0 args = lv) (k : Ex G Y d U K X 0 0 lv [] M) : CallH G d U Y args M K X := by
  refine vx_ofWH (cc := yC Y) (maxL := yL Y) (ret := yR Y) (hh := yH Y) hy rfl ?_
  intro p e s m args0 below meth c s₁ B hml hP
  obtain ⟨rfl, hV, hs⟩ := hP
  have hts : ∀ w ∈ lw_all, w.before args.toArray s = true := fun w h => atoms_spec (ws := wsH Y) B.pre w (List.mem_cons_of_mem _ h)
  have htl : c.exceptionTable.toList = tableOf (yH Y) := vx_table (x := yN Y) B (atoms_spec (ws := wsH Y) B.pre _ List.mem_cons_self)
  have hl := lv_entry args (n := yL Y) hlen
  rw [hlv] at hl
  rw [lg_entry_eq]
  exact k p e s m args.toArray below meth c s.heap [] _ 0 0 ⟨B.exec, B.bytes, hml, findClass_of_methodNamed B.named, hts, B.returns, B.notSynchronized, hV, htl⟩ hl hs va_S.rf (Nat.zero_le _) (Nat.zero_le _)
/-- where a throw of E at pc goes: the handler x -/
def HdE (G : GT) (Y : YT) (d U : Nat) (K : List Value → Mem → Prop) (X : String → Mem → Prop) (u pc : Nat) (lv : List (Nat × Value)) (E : String) (M : Mem) : Prop :=
  ∃ (pre : List (Nat × Nat × Nat × Nat)) (x : Nat × Nat × Nat × Nat) (suf : List (Nat × Nat × Nat × Nat)), yH Y = pre ++ x :: suf ∧ (∀ z ∈ pre, z.2.2.2 ≠ 0 ∧ ∃ nm, Cond.classLink (yN Y).cls z.2.2.2 nm ∈ lw_all ∧ va_Nc E nm (s0G G)) ∧ (x.1 ≤ pc ∧ pc < x.2.1) ∧ x.2.2.2 ≠ 0 ∧
    (∃ nm, Cond.classLink (yN Y).cls x.2.2.2 nm ∈ lw_all ∧ Cond.castable E nm ∈ lw_tbl) ∧ ∀ q : Nat, Ex G Y d U K X u x.2.2.1 lv [.ref q] M
theorem ev_callVH {Y' : YT} {d' u' n idx : Nat} {As : List Value} {K' : List Value → Mem → Prop} {X' : String → Mem → Prop} {ci : Nat} {a : Nat} {i o : Int} {fs : List Value} {q9 : vw_C} (mf : MFV Y' n) (ml : Cond.methodLink (yN Y).cls idx (yN Y') ∈ lw_all) (dd : decode (yC Y) pc = .ok (.invokevirtual idx, 3)) (hdm : dom a i o) (he : entI G M a i o = .inr (ci, fs)) (hci : vwCl[ci]? = some q9) (hcq : q9.1 = (yN Y').cls)
    (hn : As.length = n) (hlv : d' + 1 ≤ d) (hmx : yL Y' ≤ 27) (hu : u + u' ≤ U) (hst : (st.map fun v => v.category).sum ≤ 8) (hc : Call G d' u' Y' (rr G a i o :: As) M K' X')
    (k : ∀ r M', K' r M' → Ex G Y d U K X (u + u') (pc + 3) lv (r ++ st) M') (kx : ∀ E M', X' E M' → HdE G Y d U K X (u + u') pc lv E M') : Ex G Y d U K X u pc lv (As.reverse ++ rr G a i o :: st) M := by
  intro p e s m args below meth c H locs ls cells slots C hl hs hS hc9 hn9
  obtain ⟨g1, g2, g3, g4, g5, g6⟩ := mf
  have hr := vx_runV (p := p) (e := e) (meth := meth) (below := below) (cells := cells) (slots := slots) (locs := locs) (R := rmD d U) (g := F0 m pc ls (As.reverse ++ rr G a i o :: st)) (As := As) (rest := st) (b := ad G a i o) ⟨C.1, C.2.1, C.2.2.1, C.2.2.2.1, C.2.2.2.2.1⟩ hc (cwV n C.2.2.2.2.1 (C := (yN Y').cls) (own := (yN Y).cls) (index := idx) (all_in (by
    intro w hw
    simp only [wsV, wsY, List.cons_append, List.nil_append, List.mem_cons] at hw
    rcases hw with rfl | rfl | rfl | rfl | rfl | hw
    · exact ml
    · exact g1
    · exact g2
    · exact g3
    · exact g4
    · exact hw)) rfl rfl rfl ⟨rfl, g5.1, g5.2, g6⟩ ⟨hlv, (by show 8 + (yL Y' + 11) + 46 * d' ≤ 46 * d; omega)⟩) ⟨PcN_blind, (by
    have h9 := va_recv C.2.2.2.2.2.2.2.1.K hs hci ((wd_at hdm).trans (by rw [he]))
    rw [hcq] at h9
    exact h9), fun U9 hU hW => ⟨rfl, C.2.2.2.2.2.2.2.1.at hS hU hW, by rw [hU]; exact hs⟩⟩ rfl hn hl.1 rfl (lv_room hst) dd ⟨(by show cells + u' ≤ U; omega), (by show slots + 6 * u' ≤ 6 * U; omega)⟩
  intro T hT X9
  rcases hr T hT X9 with ⟨v, st₀, t, T', L, h0, X', hL, e1, e2, ⟨⟨v', M', hv, hp, hb⟩, hF⟩, go⟩ | ⟨q, st₀, t, T', L, E, ce, h0, X', hL, e1, e2, ⟨⟨M', hp, hb⟩, hF⟩, hce, hcv, hcl, go⟩
  · cases hv
    obtain ⟨k1, k2, k3⟩ := vx_keep h0 e1 hS (fun q _ h => h) (fun q h => h) hL hF
    obtain ⟨t2, a1, b1⟩ := k _ M' hp p e s m args below meth c T'.heap (locs ++ L) ls (cells + u') (slots + 6 * u') C hl (by rw [e1]; exact hb) k3 (by omega) (by omega) T' rfl X'
    exact ⟨t2, go t2 a1, b1⟩
  · obtain ⟨k1, k2, k3⟩ := vx_keep h0 e1 hS (fun q _ h => h) (fun q h => h) hL hF
    obtain ⟨pre, x, suf, y1, y2, y3, y4, ⟨nm, y5, y6⟩, y7⟩ := kx E M' hp
    have hts := C.2.2.2.2.1
    have htab : c.exceptionTable.toList = (pre.map fun q => (⟨q.1, q.2.1, q.2.2.1, q.2.2.2⟩ : ExceptionTableEntry)) ++ (⟨x.1, x.2.1, x.2.2.1, x.2.2.2⟩ : ExceptionTableEntry) :: (suf.map fun q => (⟨q.1, q.2.1, q.2.2.1, q.2.2.2⟩ : ExceptionTableEntry)) := by
      rw [C.2.2.2.2.2.2.2.2, y1]
      unfold tableOf
      rw [List.map_append, List.map_cons]
    have hw : vx_W p (lG G) e (rmD d U) s m args below meth c T'.heap (locs ++ L) (cells + u') (slots + 6 * u') (ZX G U K X below args s) (F0 m pc ls st) q := by
      refine vx_catch (own := (yN Y).cls) (name := nm) (E := E) (ce := ce) C.2.2.2.1 _ _ _ htab (fun z hz => ?_) ?_ y4 (hts _ y5) (va_Nw.use rfl (va_Nw.warmC C.2.2.2.2.2.2.2.1.2.1 (C.2.2.2.2.2.2.2.1.1.2.2.2.1 _ y6 rfl))) (by rw [e1]; exact hce) hcv hcl ?_
      · obtain ⟨w, hw, rfl⟩ := List.mem_map.mp hz
        obtain ⟨z1, nm2, z2, z3⟩ := y2 w hw
        exact Or.inr ⟨z1, nm2, hts _ z2, z3.moved C.2.2.2.2.2.2.2.1.2.1.alike⟩
      · show (decide (x.1 ≤ pc) && decide (pc < x.2.1)) = true
        simp only [Bool.and_eq_true, decide_eq_true_eq]
        exact y3
      · exact y7 q p e s m args below meth c T'.heap (locs ++ L) ls (cells + u') (slots + 6 * u') C hl (by rw [e1]; exact hb) k3 (by omega) (by omega)
    obtain ⟨t2, a1, b1⟩ := hw T' rfl X'
    exact ⟨t2, go.trans a1, b1⟩
end Hd
section Li
variable {G : GT} {Y : YT} {R : Room} {u : Nat} {Z : ZT} {pc : Nat} {lv lv' : List (Nat × Value)} {st : List Value} {M : Mem}
theorem J_in0 : vp_in (J 0) 1 := J_in (by decide) (by decide) (by decide)
theorem J_cl0 : (J 0).toNatClampNeg = 0 := J_clamp I32_0
theorem dm9 {o : Int} (h0 : 0 ≤ o) (h1 : o < 2) : dom 9 0 o := ⟨by decide, h0, by simp only [domN, decide_eq_true_eq]; omega⟩
theorem ev_last {x : Int64} {w : Int} (hw : Int64.ofInt w = x) (dd : decode (yC Y) pc = .ok (.lastore, 1)) (k : Ev G Y R u Z (pc + 1) lv st (wr M 9 0 0 0 w)) : Ev G Y R u Z pc lv (.long x :: iv 0 :: rr G 9 0 0 :: st) M := by
  intro p e s m args below meth c H locs ls cells slots C hl hs hS hc hn
  refine va_last C.1 C.2.1 C.2.2.2.2.2.2.2.1.K hs wd_D hS (off 9 0 0) 5 (cA := cyG G 5) (n := 1) (f := fun k : Nat => Int64.ofInt (M 9 0 0 (k : Int))) (wd_at (dm9 (by decide) (by decide))) rfl J_in0 dd (fun H1 locs1 hP hD hS => ?_)
  have e9 : (Sum.inl (cyG G 5, 1, Sum.inr (Sum.inl (vp_updL (fun k : Nat => Int64.ofInt (M 9 0 0 (k : Int))) (J 0).toNatClampNeg x))) : va_E) = entR G 9 0 (0 : Int).toNat (upI (M 9 0 0) 0 w) := by
    rw [J_cl0]
    show _ = (Sum.inl (cyG G 5, 1, Sum.inr (Sum.inl (fun k : Nat => Int64.ofInt (upI (M 9 0 0) 0 w (k : Int))))) : va_E)
    congr 5
    funext q
    unfold vp_updL upI
    by_cases hq : q = 0
    · rw [if_pos hq, if_pos (by omega), hw]
    · rw [if_neg hq, if_neg (by omega)]
  rw [e9, wd_set (dm9 (by decide) (by decide))] at hP
  exact k p e s m args below meth c H1 locs1 ls cells slots C hl hP hS hc hn
theorem ev_dast {x : UInt64} (dd : decode (yC Y) pc = .ok (.dastore, 1)) (k : Ev G Y R u Z (pc + 1) lv st (wr M 9 0 1 0 (x.toNat : Int))) : Ev G Y R u Z pc lv (.double x :: iv 0 :: rr G 9 0 1 :: st) M := by
  intro p e s m args below meth c H locs ls cells slots C hl hs hS hc hn
  refine va_dast C.1 C.2.1 C.2.2.2.2.2.2.2.1.K hs wd_D hS (off 9 0 1) 6 (cA := cyG G 6) (n := 1) (f := fun k : Nat => UInt64.ofNat (M 9 0 1 (k : Int)).toNat) (wd_at (dm9 (by decide) (by decide))) rfl J_in0 dd (fun H1 locs1 hP hD hS => ?_)
  have e9 : (Sum.inl (cyG G 6, 1, Sum.inr (Sum.inr (Sum.inr (Sum.inl (vf_upd (fun k : Nat => UInt64.ofNat (M 9 0 1 (k : Int)).toNat) (J 0).toNatClampNeg x))))) : va_E) = entR G 9 0 (1 : Int).toNat (upI (M 9 0 1) 0 (x.toNat : Int)) := by
    rw [J_cl0]
    show _ = (Sum.inl (cyG G 6, 1, Sum.inr (Sum.inr (Sum.inr (Sum.inl (fun k : Nat => UInt64.ofNat (upI (M 9 0 1) 0 (x.toNat : Int) (k : Int)).toNat))))) : va_E)
    congr 7
    funext q
    unfold vf_upd upI
    by_cases hq : q = 0
    · rw [if_pos hq, if_pos (by omega), Int.toNat_natCast, UInt64.ofNat_toNat]
    · rw [if_neg hq, if_neg (by omega)]
  rw [e9, wd_set (dm9 (by decide) (by decide))] at hP
  exact k p e s m args below meth c H1 locs1 ls cells slots C hl hP hS hc hn
theorem ev_lald (dd : decode (yC Y) pc = .ok (.laload, 1)) (k : Ev G Y R u Z (pc + 1) lv (.long (Int64.ofInt (M 9 0 0 0)) :: st) M) : Ev G Y R u Z pc lv (iv 0 :: rr G 9 0 0 :: st) M := by
  intro p e s m args below meth c H locs ls cells slots C hl hs hS hc hn
  refine va_lald C.1 C.2.1 C.2.2.2.2.2.2.2.1.K hs (off 9 0 0) 5 (cA := cyG G 5) (n := 1) (f := fun k : Nat => Int64.ofInt (M 9 0 0 (k : Int))) (wd_at (dm9 (by decide) (by decide))) rfl J_in0 dd ?_
  rw [J_cl0]
  exact k p e s m args below meth c H locs ls cells slots C hl hs hS hc hn
theorem ev_dald (dd : decode (yC Y) pc = .ok (.daload, 1)) (k : Ev G Y R u Z (pc + 1) lv (.double (UInt64.ofNat (M 9 0 1 0).toNat) :: st) M) : Ev G Y R u Z pc lv (iv 0 :: rr G 9 0 1 :: st) M := by
  intro p e s m args below meth c H locs ls cells slots C hl hs hS hc hn
  refine va_dald C.1 C.2.1 C.2.2.2.2.2.2.2.1.K hs (off 9 0 1) 6 (cA := cyG G 6) (n := 1) (f := fun k : Nat => UInt64.ofNat (M 9 0 1 (k : Int)).toNat) (wd_at (dm9 (by decide) (by decide))) rfl J_in0 dd ?_
  rw [J_cl0]
  exact k p e s m args below meth c H locs ls cells slots C hl hs hS hc hn
theorem evx_eq {x : Int32} {o : Int} (tgt : Nat) (dd : decode (yC Y) pc = .ok (.ifCond .eq o, 3)) (ht : (pc : Int) + o = (tgt : Int)) (kt : x = 0 → Ev G Y R u Z tgt lv st M) (kf : ¬ x = 0 → Ev G Y R u Z (pc + 3) lv st M) : Ev G Y R u Z pc lv (.int x :: st) M :=
  fun p e s m args below meth c H locs ls cells slots C hl hs hS hc hn => lv_if_eq C.1 C.2.1 dd ht (fun h => kt h p e s m args below meth c H locs ls cells slots C hl hs hS hc hn) (fun h => kf h p e s m args below meth c H locs ls cells slots C hl hs hS hc hn)
theorem evx_ne {x : Int32} {o : Int} (tgt : Nat) (dd : decode (yC Y) pc = .ok (.ifCond .ne o, 3)) (ht : (pc : Int) + o = (tgt : Int)) (kt : ¬ x = 0 → Ev G Y R u Z tgt lv st M) (kf : x = 0 → Ev G Y R u Z (pc + 3) lv st M) : Ev G Y R u Z pc lv (.int x :: st) M :=
  fun p e s m args below meth c H locs ls cells slots C hl hs hS hc hn => lv_if_ne C.1 C.2.1 dd ht (fun h => kt h p e s m args below meth c H locs ls cells slots C hl hs hS hc hn) (fun h => kf h p e s m args below meth c H locs ls cells slots C hl hs hS hc hn)
theorem evx_icmpeq {x y : Int32} {o : Int} (tgt : Nat) (dd : decode (yC Y) pc = .ok (.if_icmp .eq o, 3)) (ht : (pc : Int) + o = (tgt : Int)) (kt : x = y → Ev G Y R u Z tgt lv st M) (kf : ¬ x = y → Ev G Y R u Z (pc + 3) lv st M) : Ev G Y R u Z pc lv (.int y :: .int x :: st) M :=
  fun p e s m args below meth c H locs ls cells slots C hl hs hS hc hn => lv_icmp_eq C.1 C.2.1 dd ht (fun h => kt h p e s m args below meth c H locs ls cells slots C hl hs hS hc hn) (fun h => kf h p e s m args below meth c H locs ls cells slots C hl hs hS hc hn)
theorem evx_icmpgt {x y : Int32} {o : Int} (tgt : Nat) (dd : decode (yC Y) pc = .ok (.if_icmp .gt o, 3)) (ht : (pc : Int) + o = (tgt : Int)) (kt : y < x → Ev G Y R u Z tgt lv st M) (kf : ¬ y < x → Ev G Y R u Z (pc + 3) lv st M) : Ev G Y R u Z pc lv (.int y :: .int x :: st) M :=
  fun p e s m args below meth c H locs ls cells slots C hl hs hS hc hn => lv_icmp_gt C.1 C.2.1 dd ht (fun h => kt h p e s m args below meth c H locs ls cells slots C hl hs hS hc hn) (fun h => kf h p e s m args below meth c H locs ls cells slots C hl hs hS hc hn)
/-- .. != 0 -/
def nz (v : Int) : Int := if v = 0 then 0 else 1
theorem nz_01 (v : Int) : nz v = 0 ∨ nz v = 1 := by unfold nz; split <;> simp
theorem nz_i (v : Int) : I32 (nz v) := by rcases nz_01 v with h | h <;> rw [h] <;> exact ⟨by decide, by decide⟩
theorem ev_nz {v o1 o2 : Int} (t1 t2 : Nat) (hv : I32 v) (d1 : decode (yC Y) pc = .ok (.ifCond .eq o1, 3)) (h1 : (pc : Int) + o1 = (t1 : Int)) (d2 : decode (yC Y) (pc + 3) = .ok (.iconst 1, 1)) (d3 : decode (yC Y) (pc + 4) = .ok (.goto o2, 3)) (h2 : ((pc + 4 : Nat) : Int) + o2 = (t2 : Int)) (d4 : decode (yC Y) t1 = .ok (.iconst 0, 1)) (h3 : t1 + 1 = t2)
    (k : Ev G Y R u Z t2 lv (iv (nz v) :: st) M) : Ev G Y R u Z pc lv (iv v :: st) M := by
  refine evx_eq t1 d1 h1 (fun z => ?_) (fun z => ?_)
  · have z' : v = 0 := (J_eq hv I32_0).mp z
    refine ev_iconst d4 ?_
    rw [h3]
    unfold nz at k
    rw [if_pos z'] at k
    exact k
  · have z' : ¬ v = 0 := fun w => z ((J_eq hv I32_0).mpr w)
    refine ev_iconst d2 (ev_goto t2 d3 h2 ?_)
    unfold nz at k
    rw [if_neg z'] at k
    exact k
/-- .. ? 1L : 0L -/
theorem ev_nzL {v o1 o2 : Int} (t1 t2 : Nat) (hv : v = 0 ∨ v = 1) (d1 : decode (yC Y) pc = .ok (.ifCond .eq o1, 3)) (h1 : (pc : Int) + o1 = (t1 : Int)) (d2 : decode (yC Y) (pc + 3) = .ok (.lconst 1, 1)) (d3 : decode (yC Y) (pc + 4) = .ok (.goto o2, 3)) (h2 : ((pc + 4 : Nat) : Int) + o2 = (t2 : Int)) (d4 : decode (yC Y) t1 = .ok (.lconst 0, 1)) (h3 : t1 + 1 = t2)
    (k : Ev G Y R u Z t2 lv (.long (Int64.ofInt v) :: st) M) : Ev G Y R u Z pc lv (iv v :: st) M := by
  have hi : I32 v := by rcases hv with h | h <;> rw [h] <;> exact ⟨by decide, by decide⟩
  refine evx_eq t1 d1 h1 (fun z => ?_) (fun z => ?_)
  · have z' : v = 0 := (J_eq hi I32_0).mp z
    refine ev_lconst (v := Int64.ofInt v) d4 (by rw [z']; rfl) ?_
    rw [h3]
    exact k
  · have z' : v = 1 := by
      rcases hv with h | h
      · exact absurd ((J_eq hi I32_0).mpr h) z
      · exact h
    exact ev_lconst (v := Int64.ofInt v) d2 (by rw [z']; rfl) (ev_goto t2 d3 h2 k)
theorem J64 (v : Int) : Int64.ofInt (J v).toInt = (J v).toInt64 := rfl
/-- two equal longs -/
theorem ev_lcmp0 {x y : Int64} (h : x = y) (dd : decode (yC Y) pc = .ok (.lcmp, 1)) (k : Ev G Y R u Z (pc + 1) lv (.int 0 :: st) M) : Ev G Y R u Z pc lv (.long y :: .long x :: st) M := by
  refine ev_lcmp dd ?_
  have e : lg_cmp x y = 0 := by
    rw [h]
    unfold lg_cmp
    simp
  rw [e]
  exact k
end Li
