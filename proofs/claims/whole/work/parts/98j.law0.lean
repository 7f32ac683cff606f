/-! ===== the law's body: its judgement, its script, its calls, its end ===== -/
abbrev zL_law : YT := (yL_law, cL_law, 9, some .boolean, [])
def PL (G : GT) (b : Nat) (args : Array Value) (s : State) : Prop := args = #[Value.ref b] ∧ s = s0G G
def ZL (G : GT) (b : Nat) : ZT := fun below args s t => PL G b args s → lw_Z below args s t
abbrev EvL (G : GT) (b u pc : Nat) (lv : List (Nat × Value)) (st : List Value) (M : Mem) : Prop := Ev G zL_law room_1 u (ZL G b) pc lv st M
abbrev LW (G : GT) (b : Nat) (i : Int) : List (Nat × Value) := [(0, .ref b), (1, rr G 0 0 0), (2, rr G 8 0 0), (3, rr G 9 0 0), (4, rr G 9 0 1), (5, iv i)]
/-- the script's int at i + n -/
def ax (xs : Nat → Int32) (i n : Int) : Int := (xs (i + n).toNat).toInt
theorem ax_i {xs : Nat → Int32} {i n : Int} : I32 (ax xs i n) := I32_of _
/-- a char of an int -/
def ch (c : Int) : Int := ((J c).toUInt32 % 65536).toInt32.toInt
theorem ch_bd {c : Int} : 0 ≤ ch c ∧ ch c ≤ 65535 := by
  unfold ch
  generalize (J c).toUInt32 = y
  have h : (y % 65536).toNat < 65536 := by simp; omega
  generalize y % 65536 = z at *
  have e : z.toInt32.toInt = (z.toNat : Int) := by
    show z.toBitVec.toInt = _
    rw [BitVec.toInt_eq_toNat_of_lt (by show 2 * z.toNat < 2 ^ 32; omega)]
    rfl
  rw [e]; omega
theorem ch_zz (y : UInt32) : (y % 65536).toInt32.toUInt32.toUInt16.toUInt32.toInt32 = (y % 65536).toInt32 := by
  have h : (y % 65536).toInt32.toUInt32 = y % 65536 := rfl
  rw [h]
  have h2 : (y % 65536).toUInt16.toUInt32 = y % 65536 := by
    apply UInt32.toNat_inj.mp
    simp
  rw [h2]
theorem ch_nar {c : Int} : vp_nar .char (J (ch c)) = J (ch c) := by
  unfold ch
  rw [J_of]
  show (((J c).toUInt32 % 65536).toInt32).toUInt32.toUInt16.toUInt32.toInt32 = _
  exact ch_zz _
def MFL (Y : YT) (n : Nat) : Prop := Cond.static (yN Y) ∈ lw_all ∧ Cond.initialized (yN Y).cls ∈ lw_all ∧ Cond.codeWith (yN Y) (yC Y) (yL Y) (yR Y) (yH Y) ∈ lw_all ∧
  ((yN Y).cls ≠ "java/lang/invoke/MethodHandle" ∧ (yN Y).cls ≠ "java/lang/invoke/VarHandle") ∧ (parseMethodDescriptor (yN Y).desc).map (fun d => d.parameters.length) = some n
section El
variable {G : GT} {Y : YT} {R : Room} {u : Nat} {Z : ZT} {pc : Nat} {lv lv' : List (Nat × Value)} {st : List Value} {M : Mem}
theorem el_run {u' : Nat} {K' : List Value → Mem → Prop} {p : Program} {e : Env} {s : State} {m : MethodId} {args : Array Value} {below : List Frame} {meth : Method} {c : Code} {H : Heap} {locs : List Loc} {ls : Array Slot} {cells slots : Nat} {st0 : List Value} {a9 : Array Value}
    (C : Cx G Y p s m args meth c) (hl : lv_has ls (yL Y) lv) (hS : va_S (AG G) s.heap H locs) (hc : cells ≤ u) (hn : slots ≤ 6 * u)
    (hr : vx_Run p (lG G) e R s m args below meth c H locs cells slots u' (6 * u') (F0 m pc ls st0) st (QcN G K' a9) (XcN G noX) (AG G))
    (k : ∀ r M', K' r M' → Ev G Y R (u + u') Z (pc + 3) lv (r ++ st) M') : W p (lG G) e R s m args below meth c H locs cells slots (Z below args s) (F0 m pc ls st0) := by
  intro T hT X9
  rcases hr T hT X9 with ⟨v, st₀, t, T', L, h0, X', hL, e1, e2, ⟨⟨v', M', hv, hp, hb⟩, hF⟩, go⟩ | ⟨q, st₀, t, T', L, E, ce, h0, X', hL, e1, e2, ⟨⟨M', hp, hb⟩, hF⟩, hce, hcv, hcl, go⟩
  · cases hv
    obtain ⟨k1, k2, k3⟩ := vx_keep h0 e1 hS (fun q _ h => h) (fun q h => h) hL hF
    obtain ⟨t2, a1, b1⟩ := k _ M' hp p e s m args below meth c T'.heap (locs ++ L) ls (cells + u') (slots + 6 * u') C hl (by rw [e1]; exact hb) k3 (by omega) (by omega) T' rfl X'
    exact ⟨t2, go t2 a1, b1⟩
  · exact hp.elim
theorem el_callV {Y' : YT} {d' u' n idx : Nat} {As : List Value} {K' : List Value → Mem → Prop} {ci : Nat} {a : Nat} {i o : Int} {fs : List Value} {q9 : vw_C} (mf : MFV Y' n) (ml : Cond.methodLink (yN Y).cls idx (yN Y') ∈ lw_all) (dd : decode (yC Y) pc = .ok (.invokevirtual idx, 3)) (hR : R = room_1) (hdm : dom a i o) (he : entI G M a i o = .inr (ci, fs)) (hci : vwCl[ci]? = some q9) (hcq : q9.1 = (yN Y').cls)
    (hn : As.length = n) (hlv : d' ≤ 1000) (hmx : yL Y' ≤ 27) (hd0 : 0 ≤ d') (hu : u + u' ≤ 603072) (hu2 : 6 * (u + u') ≤ 7211114) (hst : (st.map fun v => v.category).sum ≤ 8) (hc : Call G d' u' Y' (rr G a i o :: As) M K' noX)
    (k : ∀ r M', K' r M' → Ev G Y R (u + u') Z (pc + 3) lv (r ++ st) M') : Ev G Y R u Z pc lv (As.reverse ++ rr G a i o :: st) M := by
  intro p e s m args below meth c H locs ls cells slots C hl hs hS hc9 hn9
  obtain ⟨g1, g2, g3, g4, g5, g6⟩ := mf
  subst hR
  refine el_run C hl hS hc9 hn9 (vx_runV (As := As) (rest := st) (b := ad G a i o) ⟨C.1, C.2.1, C.2.2.1, C.2.2.2.1, C.2.2.2.2.1⟩ hc (cwV n C.2.2.2.2.1 (C := (yN Y').cls) (own := (yN Y).cls) (index := idx) (all_in ?_) rfl rfl rfl ⟨rfl, g5.1, g5.2, g6⟩ ⟨?_, ?_⟩) ⟨PcN_blind, ?_, fun U9 hU hW => ⟨rfl, C.2.2.2.2.2.2.2.1.at hS hU hW, by rw [hU]; exact hs⟩⟩ rfl hn hl.1 rfl (lv_room hst) dd ⟨?_, ?_⟩) k
  · intro w hw
    simp only [wsV, wsY, List.cons_append, List.nil_append, List.mem_cons] at hw
    rcases hw with rfl | rfl | rfl | rfl | rfl | hw
    · exact ml
    · exact g1
    · exact g2
    · exact g3
    · exact g4
    · exact hw
  · show d' + 1 ≤ 2048
    omega
  · show 8 + (yL Y' + 11) + 46 * d' ≤ 94400
    omega
  · have h9 := va_recv C.2.2.2.2.2.2.2.1.K hs hci ((wd_at hdm).trans (by rw [he]))
    rw [hcq] at h9
    exact h9
  · show cells + u' ≤ 603072
    omega
  · show slots + 6 * u' ≤ 7211114
    omega
theorem el_callSH {Y' : YT} {d' u' n idx : Nat} {As : List Value} {K' : List Value → Mem → Prop} (mf : MFL Y' n) (ml : Cond.methodLink (yN Y).cls idx (yN Y') ∈ lw_all) (dd : decode (yC Y) pc = .ok (.invokestatic idx, 3)) (hR : R = room_1)
    (hn : As.length = n) (hlv : d' ≤ 1000) (hmx : yL Y' ≤ 27) (hu : u + u' ≤ 603072) (hu2 : 6 * (u + u') ≤ 7211114) (hst : (st.map fun v => v.category).sum ≤ 8) (hc : CallH G d' u' Y' As M K' noX)
    (k : ∀ r M', K' r M' → Ev G Y R (u + u') Z (pc + 3) lv (r ++ st) M') : Ev G Y R u Z pc lv (As.reverse ++ st) M := by
  intro p e s m args below meth c H locs ls cells slots C hl hs hS hc9 hn9
  obtain ⟨g1, g3, g4, g5, g6⟩ := mf
  subst hR
  refine el_run C hl hS hc9 hn9 (vx_runSX (As := As) (rest := st) (hh := yH Y') ⟨C.1, C.2.1, C.2.2.1, C.2.2.2.1, C.2.2.2.2.1⟩ hc (vx_cwSW n C.2.2.2.2.1 (own := (yN Y).cls) (index := idx) (all_in ?_) rfl rfl rfl ⟨g5.1, g5.2, g6⟩ ⟨?_, ?_⟩) ⟨PcN_blind, fun U9 hU hW => ⟨rfl, C.2.2.2.2.2.2.2.1.at hS hU hW, by rw [hU]; exact hs⟩⟩ rfl hn hl.1 rfl (lv_room hst) dd ⟨?_, ?_⟩) k
  · intro w hw
    simp only [va_wsS, wsH, List.cons_append, List.nil_append, List.mem_cons] at hw
    rcases hw with rfl | rfl | rfl | rfl | hw
    · exact ml
    · exact g1
    · exact g3
    · exact g4
    · exact hw
  · show d' + 1 ≤ 2048
    omega
  · show 8 + (yL Y' + 11) + 46 * d' ≤ 94400
    omega
  · show cells + u' ≤ 603072
    omega
  · show slots + 6 * u' ≤ 7211114
    omega
theorem ev_ch {c : Int} (dd : decode (yC Y) pc = .ok (.i2c, 1)) (k : Ev G Y R u Z (pc + 1) lv (iv (ch c) :: st) M) : Ev G Y R u Z pc lv (iv c :: st) M := by
  refine ev_i2c dd rfl ?_
  unfold ch at k
  rw [show iv ((J c).toUInt32 % 65536).toInt32.toInt = .int ((J c).toUInt32 % 65536).toInt32 from congrArg Value.int (J_of _)] at k
  exact k
end El
section Es
variable {G : GT} {b u : Nat} {pc : Nat} {lv : List (Nat × Value)} {st : List Value} {M : Mem} {L : Nat} {xs : Nat → Int32}
theorem ev_sld {i n : Int} (hX : va_X b L xs (s0G G) (s0G G).heap) (hb : b < bG G) (hL : L ≤ 2560) (k0 : 0 ≤ i + n) (k1 : i + n < (L : Int)) (dd : decode (yC zL_law) pc = .ok (.iaload, 1)) (k : EvL G b u (pc + 1) lv (iv (ax xs i n) :: st) M) : EvL G b u pc lv (iv (i + n) :: .ref b :: st) M := by
  intro p e s m args below meth c H locs ls cells slots C hl hs hS hc hn
  by_cases hp : PL G b args s
  · obtain ⟨ha, hse⟩ := hp
    have hki := i32_idx k0 k1 (by omega)
    refine va_sld C.1 C.2.1 (by rw [hse]; exact hX) (by rw [hse]; exact hb) (fun q => absurd q (Nat.not_le.mpr hb)) hS (J_in k0 k1 (by omega)) dd ?_
    rw [J_clamp hki]
    have h := k p e s m args below meth c H locs ls cells slots C hl hs hS hc hn
    unfold ax at h
    rw [show iv (xs (i + n).toNat).toInt = .int (xs (i + n).toNat) from congrArg Value.int (J_of _)] at h
    exact h
  · intro T hT X
    exact ⟨_, Steps.refl _, fun q => absurd q hp⟩
theorem ev_slen (hX : va_X b L xs (s0G G) (s0G G).heap) (hb : b < bG G) (dd : decode (yC zL_law) pc = .ok (.arraylength, 1)) (k : EvL G b u (pc + 1) lv (iv (L : Int) :: st) M) : EvL G b u pc lv (.ref b :: st) M := by
  intro p e s m args below meth c H locs ls cells slots C hl hs hS hc hn
  by_cases hp : PL G b args s
  · obtain ⟨ha, hse⟩ := hp
    refine va_slen C.1 C.2.1 (by rw [hse]; exact hX) (by rw [hse]; exact hb) (fun q => absurd q (Nat.not_le.mpr hb)) hS dd ?_
    exact k p e s m args below meth c H locs ls cells slots C hl hs hS hc hn
  · intro T hT X
    exact ⟨_, Steps.refl _, fun q => absurd q hp⟩
/-- the law says true -/
theorem ev_true (hu : u ≤ 603072) (hu2 : 6 * u ≤ 7211114) (dd : decode (yC zL_law) pc = .ok (.ireturn, 1)) : EvL G b u pc lv [iv 1] M := by
  intro p e s m args below meth c H locs ls cells slots C hl hs hS hc hn
  by_cases hp : PL G b args s
  · have hp' := hp
    obtain ⟨ha, hse⟩ := hp
    subst ha
    have w : W p (lG G) e room_1 s m #[Value.ref b] below meth c H locs cells slots (lw_Z below #[Value.ref b] s) (F0 m pc ls [iv 1]) := by
      refine W.widen (k := 603072) (n := 7211114) (by omega) (by omega) (va_forget (fun q hq => ?_) ?_)
      · have := hS.2.2 q hq
        rw [hse]
        exact this
      · exact lw_ret (d0 := s.drawn) (Drawn.sameBut.refl s.drawn lw_cs) C.1 C.2.1 C.2.2.2.2.2.1 C.2.2.2.2.2.2.1 dd
    intro T hT X
    obtain ⟨t, a1, b1⟩ := w T hT X
    exact ⟨t, a1, fun _ => b1⟩
  · intro T hT X
    exact ⟨_, Steps.refl _, fun q => absurd q hp⟩
end Es
