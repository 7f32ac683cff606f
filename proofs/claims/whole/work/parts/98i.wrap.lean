/-! ===== the law's methods that call the class and catch (by program) ===== -/
def WrI (G : GT) (d : Nat) (z : YT) (Bs : List Value) : List Value → Mem → Prop := fun r M1 => ∃ c v : Int, r = [iv c] ∧ (0 ≤ c ∧ c ≤ 3) ∧ (c = 0 → M1 9 0 0 0 = (J v).toInt) ∧ Call G d 0 z Bs M1 (EndI M1 c v) noX
def WrB (G : GT) (d : Nat) (z : YT) (Bs : List Value) : List Value → Mem → Prop := fun r M1 => ∃ c v : Int, r = [iv c] ∧ (0 ≤ c ∧ c ≤ 3) ∧ (c = 0 → M1 9 0 0 0 = v ∧ (v = 0 ∨ v = 1)) ∧ Call G d 0 z Bs M1 (EndI M1 c v) noX
def WrD (G : GT) (d : Nat) (z : YT) (Bs : List Value) : List Value → Mem → Prop := fun r M1 => ∃ (c : Int) (v : UInt64), r = [iv c] ∧ (0 ≤ c ∧ c ≤ 3) ∧ (c = 0 → M1 9 0 1 0 = (v.toNat : Int)) ∧ Call G d 0 z Bs M1 (EndD M1 c v) noX
def WrV (G : GT) (d : Nat) (z : YT) (Bs : List Value) : List Value → Mem → Prop := fun r M1 => ∃ c : Int, r = [iv c] ∧ (0 ≤ c ∧ c ≤ 3) ∧ Call G d 0 z Bs M1 (EndV M1 c) noX
section Hw
variable {G : GT} {Y : YT} {d U u : Nat} {K : List Value → Mem → Prop} {X : String → Mem → Prop} {lv : List (Nat × Value)} {M : Mem}
theorem hd_tail {c : Int} {h n : Nat} (d1 : decode (yC Y) h = .ok (.astore n, 2)) (hn : n < yL Y) (d2 : decode (yC Y) (h + 2) = .ok (.iconst c, 1)) (d3 : decode (yC Y) (h + 3) = .ok (.ireturn, 1)) (hu : u ≤ U) (hr : yR Y = some .int) (k : K [iv c] M) : ∀ q : Nat, Ex G Y d U K X u h lv [.ref q] M := fun q => by
  refine ev_sub [] rfl ?_
  refine ev_astore (lv' := [(n, .ref q)]) d1 hn rfl ?_
  refine ev_iconst d2 ?_
  refine ev_sub [] rfl ?_
  exact ev_iret d3 hu hr k
theorem hd_tailn {c : Int} {h n : Nat} {f : Fin 4} (d1 : decode (yC Y) h = .ok (.astore_n f, 1)) (hf : (f : Nat) = n) (hn : n < yL Y) (d2 : decode (yC Y) (h + 1) = .ok (.iconst c, 1)) (d3 : decode (yC Y) (h + 2) = .ok (.ireturn, 1)) (hu : u ≤ U) (hr : yR Y = some .int) (k : K [iv c] M) : ∀ q : Nat, Ex G Y d U K X u h lv [.ref q] M := fun q => by
  refine ev_sub [] rfl ?_
  refine ev_astore_n (lv' := [(n, .ref q)]) d1 hf hn rfl ?_
  refine ev_iconst d2 ?_
  refine ev_sub [] rfl ?_
  exact ev_iret d3 hu hr k
end Hw
abbrev fa1 {α : Type} {P : α → Prop} {a : α} {l : List α} (h : P a) (t : ∀ z ∈ l, P z) : ∀ z ∈ a :: l, P z := List.forall_mem_cons.mpr ⟨h, t⟩
theorem fa0 {α : Type} {P : α → Prop} : ∀ z ∈ ([] : List α), P z := fun _ h => absurd h List.not_mem_nil
theorem nceIAeIX {G : GT} (h : NC G) : va_Nc eIA eIX (s0G G) := h (eIA, eIX) (List.mem_cons_self)
theorem nceISeIX {G : GT} (h : NC G) : va_Nc eIS eIX (s0G G) := h (eIS, eIX) (List.mem_cons_of_mem _ List.mem_cons_self)
theorem nceISeIA {G : GT} (h : NC G) : va_Nc eIS eIA (s0G G) := h (eIS, eIA) (List.mem_cons_of_mem _ (List.mem_cons_of_mem _ List.mem_cons_self))
theorem ncnsEeIX {G : GT} (h : NC G) : va_Nc nsE eIX (s0G G) := h (nsE, eIX) (List.mem_cons_of_mem _ (List.mem_cons_of_mem _ (List.mem_cons_of_mem _ List.mem_cons_self)))
theorem nceAReIX {G : GT} (h : NC G) : va_Nc eAR eIX (s0G G) := h (eAR, eIX) (List.mem_cons_of_mem _ (List.mem_cons_of_mem _ (List.mem_cons_of_mem _ (List.mem_cons_of_mem _ List.mem_cons_self))))
theorem nceUOeIX {G : GT} (h : NC G) : va_Nc eUO eIX (s0G G) := h (eUO, eIX) (List.mem_cons_of_mem _ (List.mem_cons_of_mem _ (List.mem_cons_of_mem _ (List.mem_cons_of_mem _ (List.mem_cons_of_mem _ List.mem_cons_self)))))
theorem caeAR : Cond.castable eAR eAR ∈ lw_tbl := List.mem_of_getElem? (i := 1023) (tb4 216 (by decide +kernel) rfl)
theorem caeIA : Cond.castable eIA eIA ∈ lw_tbl := List.mem_of_getElem? (i := 771) (tb3 204 (by decide +kernel) rfl)
theorem caeIS : Cond.castable eIS eIS ∈ lw_tbl := List.mem_of_getElem? (i := 800) (tb3 233 (by decide +kernel) rfl)
theorem caeIX : Cond.castable eIX eIX ∈ lw_tbl := List.mem_of_getElem? (i := 755) (tb3 188 (by decide +kernel) rfl)
theorem caeUO : Cond.castable eUO eUO ∈ lw_tbl := List.mem_of_getElem? (i := 1060) (tb5 13 (by decide +kernel) rfl)
theorem cansE : Cond.castable nsE nsE ∈ lw_tbl := List.mem_of_getElem? (i := 920) (tb4 113 (by decide +kernel) rfl)
theorem clL_13 : Cond.classLink RL 13 eIX ∈ lw_all := mem_all 664 (tb3 97 (by decide +kernel) rfl) (by decide +kernel)
theorem clL_15 : Cond.classLink RL 15 eIA ∈ lw_all := mem_all 744 (tb3 177 (by decide +kernel) rfl) (by decide +kernel)
theorem clL_17 : Cond.classLink RL 17 eIS ∈ lw_all := mem_all 745 (tb3 178 (by decide +kernel) rfl) (by decide +kernel)
theorem clL_39 : Cond.classLink RL 39 nsE ∈ lw_all := mem_all 902 (tb4 95 (by decide +kernel) rfl) (by decide +kernel)
theorem clL_60 : Cond.classLink RL 60 eAR ∈ lw_all := mem_all 1011 (tb4 204 (by decide +kernel) rfl) (by decide +kernel)
theorem clL_68 : Cond.classLink RL 68 eUO ∈ lw_all := mem_all 1047 (tb5 0 (by decide +kernel) rfl) (by decide +kernel)
abbrev zL_setSection : YT := (yL_setSection, cL_setSection, 6, some .int, [(0, 12, 15, 13), (0, 12, 19, 15), (0, 12, 23, 17)])
abbrev zL_setTurn : YT := (yL_setTurn, cL_setTurn, 5, some .int, [(0, 17, 20, 13), (0, 17, 24, 17)])
abbrev zL_set : YT := (yL_set, cL_set, 5, some .int, [(0, 10, 13, 13), (0, 10, 17, 15), (0, 10, 21, 17)])
abbrev zL_addTrip : YT := (yL_addTrip, cL_addTrip, 6, some .int, [(0, 12, 15, 13), (0, 12, 19, 15), (0, 12, 23, 17)])
abbrev zL_cancel : YT := (yL_cancel, cL_cancel, 5, some .int, [(0, 17, 20, 13), (0, 17, 24, 17)])
abbrev zL_trip : YT := (yL_trip, cL_trip, 5, some .int, [(0, 10, 13, 13), (0, 10, 17, 15)])
abbrev zL_planned : YT := (yL_planned, cL_planned, 5, some .int, [(0, 10, 13, 13), (0, 10, 17, 39)])
abbrev zL_count : YT := (yL_count, cL_count, 4, some .int, [(0, 9, 12, 15)])
abbrev zL_passage : YT := (yL_passage, cL_passage, 7, some .int, [(0, 14, 17, 13), (0, 14, 21, 39)])
abbrev zL_bunches : YT := (yL_bunches, cL_bunches, 5, some .int, [(0, 10, 13, 13)])
abbrev zL_headway : YT := (yL_headway, cL_headway, 6, some .int, [(0, 12, 15, 13), (0, 12, 19, 39)])
abbrev zL_meanHeadway : YT := (yL_meanHeadway, cL_meanHeadway, 5, some .int, [(0, 9, 12, 13), (0, 9, 16, 60)])
abbrev zL_addVehicle : YT := (yL_addVehicle, cL_addVehicle, 4, some .int, [(0, 9, 12, 13), (0, 9, 15, 17)])
abbrev zL_give : YT := (yL_give, cL_give, 5, some .int, [(0, 10, 13, 13), (0, 10, 17, 68)])
abbrev zL_giveRound : YT := (yL_giveRound, cL_giveRound, 6, some .int, [(0, 12, 15, 13), (0, 12, 19, 68)])
abbrev zL_refusal : YT := (yL_refusal, cL_refusal, 3, some .int, [(0, 8, 11, 39)])
abbrev zL_wouldRefuse : YT := (yL_wouldRefuse, cL_wouldRefuse, 5, some .int, [(0, 10, 13, 13)])
abbrev zL_take : YT := (yL_take, cL_take, 4, some .int, [(0, 9, 12, 13), (0, 9, 15, 39)])
abbrev zL_exchange : YT := (yL_exchange, cL_exchange, 6, some .int, [(0, 12, 15, 13), (0, 12, 19, 15), (0, 12, 23, 17)])
abbrev zL_duty : YT := (yL_duty, cL_duty, 5, some .int, [(0, 10, 13, 13), (0, 10, 17, 39)])
abbrev zL_vehicle : YT := (yL_vehicle, cL_vehicle, 5, some .int, [(0, 10, 13, 13), (0, 10, 17, 15)])
abbrev zL_leaving : YT := (yL_leaving, cL_leaving, 5, some .int, [(0, 10, 13, 13), (0, 10, 17, 39)])
abbrev zL_block : YT := (yL_block, cL_block, 6, some .int, [(0, 12, 15, 13), (0, 12, 19, 15), (0, 12, 23, 17)])
abbrev zL_unblock : YT := (yL_unblock, cL_unblock, 4, some .int, [(0, 9, 12, 13)])
abbrev zL_actual : YT := (yL_actual, cL_actual, 6, some .int, [(0, 12, 15, 13), (0, 12, 19, 39)])
abbrev zL_delay : YT := (yL_delay, cL_delay, 4, some .int, [(0, 9, 12, 13), (0, 9, 15, 39)])
abbrev zL_run : YT := (yL_run, cL_run, 4, some .int, [(0, 9, 12, 15)])
abbrev zL_actualBunches : YT := (yL_actualBunches, cL_actualBunches, 5, some .int, [(0, 10, 13, 13)])
abbrev zL_meanDelay : YT := (yL_meanDelay, cL_meanDelay, 3, some .int, [(0, 7, 10, 60)])
abbrev zL_turnShort : YT := (yL_turnShort, cL_turnShort, 5, some .int, [(0, 10, 13, 13), (0, 10, 17, 15)])
abbrev zL_startLate : YT := (yL_startLate, cL_startLate, 5, some .int, [(0, 10, 13, 13), (0, 10, 17, 15)])
abbrev zL_leastCost : YT := (yL_leastCost, cL_leastCost, 4, some .int, [(0, 9, 12, 15)])
abbrev zL_nextTrip : YT := (yL_nextTrip, cL_nextTrip, 4, some .int, [(0, 9, 12, 13), (0, 9, 15, 39)])
abbrev zL_append : YT := (yL_append, cL_append, 3, some .int, [(0, 5, 8, 17)])
abbrev zL_readTrips : YT := (yL_readTrips, cL_readTrips, 3, some .int, [(0, 8, 11, 15), (0, 8, 14, 17)])
abbrev zL_undo : YT := (yL_undo, cL_undo, 3, some .int, [(0, 8, 11, 17)])
abbrev zL_restore : YT := (yL_restore, cL_restore, 2, some .int, [(0, 4, 7, 17)])
theorem w_setSection {G : GT} {M : Mem} (hN : NC G) (h : Rel M) {s a b : Int} (hs : I32 s) (ha : I32 a) (hb : I32 b) : CallH G 10 4 zL_setSection [rr G 0 0 0, iv s, iv a, iv b, rr G 9 0 0] M (WrI G 5 zX12_setSection [rr G 8 0 0, iv s, iv a, iv b]) noX := by
  refine callH_intro (lv := [(0, rr G 0 0 0), (1, iv s), (2, iv a), (3, iv b), (4, rr G 9 0 0)]) (by decide) (Nat.le_of_ble_eq_true rfl) rfl ?_
  refine ev_aload (j := 4) dL_setSection_0 rfl ?_
  refine ev_iconst dL_setSection_2 ?_
  refine ev_aload_n (j := 0) dL_setSection_3 rfl rfl ?_
  refine ev_iload_n (j := 1) dL_setSection_4 rfl rfl ?_
  refine ev_iload_n (j := 2) dL_setSection_5 rfl rfl ?_
  refine ev_iload_n (j := 3) dL_setSection_6 rfl rfl ?_
  refine ev_callVH (n := 3) (As := [iv s, iv a, iv b]) (st := [iv 0, rr G 9 0 0]) mfX11_setSection mlL_7 dL_setSection_7 dm0_0 en0_0 rfl rfl rfl (by decide) (by decide) (by decide) (Nat.le_of_ble_eq_true rfl) (s_setSection h hs ha hb) (fun r M1 o => ?_) (fun E M1 o => ?_)
  · obtain ⟨v, rfl, nx⟩ := o
    refine ev_i2l dL_setSection_10 ?_
    refine ev_last (w := (J v).toInt) (J64 v) dL_setSection_11 ?_
    refine ev_goto 27 dL_setSection_12 (by decide) ?_
    refine ev_iconst dL_setSection_27 ?_
    refine ev_sub [] rfl ?_
    exact ev_iret dL_setSection_28 (by decide) rfl ⟨0, v, rfl, ⟨by decide, by decide⟩, fun _ => wr_at _ _ _ _ _ _, nx _ Ex9.wr⟩
  · rcases o with ⟨rfl, nx⟩ | ⟨o2, rfl, nx⟩ | ⟨o3, rfl, nx⟩
    · exact ⟨[], (0, 12, 15, 13), [(0, 12, 19, 15), (0, 12, 23, 17)], rfl, fa0, ⟨by decide, by decide⟩, by decide, ⟨eIX, clL_13, caeIX⟩, hd_tail dL_setSection_15 (by decide) dL_setSection_17 dL_setSection_18 (by decide) rfl ⟨1, 0, rfl, ⟨by decide, by decide⟩, fun z => absurd z (by decide), nx _ Ex9.rf⟩⟩
    · exact ⟨[(0, 12, 15, 13)], (0, 12, 19, 15), [(0, 12, 23, 17)], rfl, (fa1 ⟨by decide, eIX, clL_13, nceIAeIX hN⟩ fa0), ⟨by decide, by decide⟩, by decide, ⟨eIA, clL_15, caeIA⟩, hd_tail dL_setSection_19 (by decide) dL_setSection_21 dL_setSection_22 (by decide) rfl ⟨2, 0, rfl, ⟨by decide, by decide⟩, fun z => absurd z (by decide), nx _ Ex9.rf⟩⟩
    · exact ⟨[(0, 12, 15, 13), (0, 12, 19, 15)], (0, 12, 23, 17), [], rfl, (fa1 ⟨by decide, eIX, clL_13, nceISeIX hN⟩ (fa1 ⟨by decide, eIA, clL_15, nceISeIA hN⟩ fa0)), ⟨by decide, by decide⟩, by decide, ⟨eIS, clL_17, caeIS⟩, hd_tail dL_setSection_23 (by decide) dL_setSection_25 dL_setSection_26 (by decide) rfl ⟨3, 0, rfl, ⟨by decide, by decide⟩, fun z => absurd z (by decide), nx _ Ex9.rf⟩⟩
theorem w_setTurn {G : GT} {M : Mem} (hN : NC G) (h : Rel M) {s a : Int} (hs : I32 s) (ha : a = 0 ∨ a = 1) : CallH G 10 4 zL_setTurn [rr G 0 0 0, iv s, iv a, rr G 9 0 0] M (WrB G 2 zX12_setTurn [rr G 8 0 0, iv s, iv a]) noX := by
  refine callH_intro (lv := [(0, rr G 0 0 0), (1, iv s), (2, iv a), (3, rr G 9 0 0)]) (by decide) (Nat.le_of_ble_eq_true rfl) rfl ?_
  refine ev_aload_n (j := 3) dL_setTurn_0 rfl rfl ?_
  refine ev_iconst dL_setTurn_1 ?_
  refine ev_aload_n (j := 0) dL_setTurn_2 rfl rfl ?_
  refine ev_iload_n (j := 1) dL_setTurn_3 rfl rfl ?_
  refine ev_iload_n (j := 2) dL_setTurn_4 rfl rfl ?_
  refine ev_callVH (n := 2) (As := [iv s, iv a]) (st := [iv 0, rr G 9 0 0]) mfX11_setTurn mlL_19 dL_setTurn_5 dm0_0 en0_0 rfl rfl rfl (by decide) (by decide) (by decide) (Nat.le_of_ble_eq_true rfl) (s_setTurn h hs ha) (fun r M1 o => ?_) (fun E M1 o => ?_)
  · obtain ⟨v, rfl, hv, nx⟩ := o
    refine ev_nzL 15 16 hv dL_setTurn_8 (by decide) dL_setTurn_11 dL_setTurn_12 (by decide) dL_setTurn_15 (by decide) ?_
    refine ev_last (w := v) rfl dL_setTurn_16 ?_
    refine ev_goto 28 dL_setTurn_17 (by decide) ?_
    refine ev_iconst dL_setTurn_28 ?_
    refine ev_sub [] rfl ?_
    exact ev_iret dL_setTurn_29 (by decide) rfl ⟨0, v, rfl, ⟨by decide, by decide⟩, fun _ => ⟨wr_at _ _ _ _ _ _, hv⟩, nx _ Ex9.wr⟩
  · rcases o with ⟨rfl, nx⟩ | ⟨o2, rfl, nx⟩ | ⟨o3, rfl, nx⟩
    · exact ⟨[], (0, 17, 20, 13), [(0, 17, 24, 17)], rfl, fa0, ⟨by decide, by decide⟩, by decide, ⟨eIX, clL_13, caeIX⟩, hd_tail dL_setTurn_20 (by decide) dL_setTurn_22 dL_setTurn_23 (by decide) rfl ⟨1, 0, rfl, ⟨by decide, by decide⟩, fun z => absurd z (by decide), nx _ Ex9.rf⟩⟩
    · exact ⟨[(0, 17, 20, 13)], (0, 17, 24, 17), [], rfl, (fa1 ⟨by decide, eIX, clL_13, nceISeIX hN⟩ fa0), ⟨by decide, by decide⟩, by decide, ⟨eIS, clL_17, caeIS⟩, hd_tail dL_setTurn_24 (by decide) dL_setTurn_26 dL_setTurn_27 (by decide) rfl ⟨2, 0, rfl, ⟨by decide, by decide⟩, fun z => absurd z (by decide), nx _ Ex9.rf⟩⟩
    · exact absurd o3 (by decide)
theorem w_set {G : GT} {M : Mem} (hN : NC G) (h : Rel M) {s a : Int} (hs : I32 s) (ha : I32 a) : CallH G 10 4 zL_set [rr G 0 0 0, iv s, iv a, rr G 9 0 0] M (WrI G 5 zX12_set [rr G 8 0 0, iv s, iv a]) noX := by
  refine callH_intro (lv := [(0, rr G 0 0 0), (1, iv s), (2, iv a), (3, rr G 9 0 0)]) (by decide) (Nat.le_of_ble_eq_true rfl) rfl ?_
  refine ev_aload_n (j := 3) dL_set_0 rfl rfl ?_
  refine ev_iconst dL_set_1 ?_
  refine ev_aload_n (j := 0) dL_set_2 rfl rfl ?_
  refine ev_iload_n (j := 1) dL_set_3 rfl rfl ?_
  refine ev_iload_n (j := 2) dL_set_4 rfl rfl ?_
  refine ev_callVH (n := 2) (As := [iv s, iv a]) (st := [iv 0, rr G 9 0 0]) mfX11_set mlL_23 dL_set_5 dm0_0 en0_0 rfl rfl rfl (by decide) (by decide) (by decide) (Nat.le_of_ble_eq_true rfl) (s_set h hs ha) (fun r M1 o => ?_) (fun E M1 o => ?_)
  · obtain ⟨v, rfl, nx⟩ := o
    refine ev_i2l dL_set_8 ?_
    refine ev_last (w := (J v).toInt) (J64 v) dL_set_9 ?_
    refine ev_goto 25 dL_set_10 (by decide) ?_
    refine ev_iconst dL_set_25 ?_
    refine ev_sub [] rfl ?_
    exact ev_iret dL_set_26 (by decide) rfl ⟨0, v, rfl, ⟨by decide, by decide⟩, fun _ => wr_at _ _ _ _ _ _, nx _ Ex9.wr⟩
  · rcases o with ⟨rfl, nx⟩ | ⟨o2, rfl, nx⟩ | ⟨o3, rfl, nx⟩
    · exact ⟨[], (0, 10, 13, 13), [(0, 10, 17, 15), (0, 10, 21, 17)], rfl, fa0, ⟨by decide, by decide⟩, by decide, ⟨eIX, clL_13, caeIX⟩, hd_tail dL_set_13 (by decide) dL_set_15 dL_set_16 (by decide) rfl ⟨1, 0, rfl, ⟨by decide, by decide⟩, fun z => absurd z (by decide), nx _ Ex9.rf⟩⟩
    · exact ⟨[(0, 10, 13, 13)], (0, 10, 17, 15), [(0, 10, 21, 17)], rfl, (fa1 ⟨by decide, eIX, clL_13, nceIAeIX hN⟩ fa0), ⟨by decide, by decide⟩, by decide, ⟨eIA, clL_15, caeIA⟩, hd_tail dL_set_17 (by decide) dL_set_19 dL_set_20 (by decide) rfl ⟨2, 0, rfl, ⟨by decide, by decide⟩, fun z => absurd z (by decide), nx _ Ex9.rf⟩⟩
    · exact ⟨[(0, 10, 13, 13), (0, 10, 17, 15)], (0, 10, 21, 17), [], rfl, (fa1 ⟨by decide, eIX, clL_13, nceISeIX hN⟩ (fa1 ⟨by decide, eIA, clL_15, nceISeIA hN⟩ fa0)), ⟨by decide, by decide⟩, by decide, ⟨eIS, clL_17, caeIS⟩, hd_tail dL_set_21 (by decide) dL_set_23 dL_set_24 (by decide) rfl ⟨3, 0, rfl, ⟨by decide, by decide⟩, fun z => absurd z (by decide), nx _ Ex9.rf⟩⟩
theorem w_addTrip {G : GT} {M : Mem} (hN : NC G) (h : Rel M) {a b c : Int} (ha : I32 a) (hb : I32 b) (hc : I32 c) : CallH G 10 4 zL_addTrip [rr G 0 0 0, iv a, iv b, iv c, rr G 9 0 0] M (WrI G 3 zX12_addTrip [rr G 8 0 0, iv a, iv b, iv c]) noX := by
  refine callH_intro (lv := [(0, rr G 0 0 0), (1, iv a), (2, iv b), (3, iv c), (4, rr G 9 0 0)]) (by decide) (Nat.le_of_ble_eq_true rfl) rfl ?_
  refine ev_aload (j := 4) dL_addTrip_0 rfl ?_
  refine ev_iconst dL_addTrip_2 ?_
  refine ev_aload_n (j := 0) dL_addTrip_3 rfl rfl ?_
  refine ev_iload_n (j := 1) dL_addTrip_4 rfl rfl ?_
  refine ev_iload_n (j := 2) dL_addTrip_5 rfl rfl ?_
  refine ev_iload_n (j := 3) dL_addTrip_6 rfl rfl ?_
  refine ev_callVH (n := 3) (As := [iv a, iv b, iv c]) (st := [iv 0, rr G 9 0 0]) mfX11_addTrip mlL_27 dL_addTrip_7 dm0_0 en0_0 rfl rfl rfl (by decide) (by decide) (by decide) (Nat.le_of_ble_eq_true rfl) (s_addTrip h ha hb hc) (fun r M1 o => ?_) (fun E M1 o => ?_)
  · obtain ⟨v, rfl, nx⟩ := o
    refine ev_i2l dL_addTrip_10 ?_
    refine ev_last (w := (J v).toInt) (J64 v) dL_addTrip_11 ?_
    refine ev_goto 27 dL_addTrip_12 (by decide) ?_
    refine ev_iconst dL_addTrip_27 ?_
    refine ev_sub [] rfl ?_
    exact ev_iret dL_addTrip_28 (by decide) rfl ⟨0, v, rfl, ⟨by decide, by decide⟩, fun _ => wr_at _ _ _ _ _ _, nx _ Ex9.wr⟩
  · rcases o with ⟨rfl, nx⟩ | ⟨o2, rfl, nx⟩ | ⟨o3, rfl, nx⟩
    · exact ⟨[], (0, 12, 15, 13), [(0, 12, 19, 15), (0, 12, 23, 17)], rfl, fa0, ⟨by decide, by decide⟩, by decide, ⟨eIX, clL_13, caeIX⟩, hd_tail dL_addTrip_15 (by decide) dL_addTrip_17 dL_addTrip_18 (by decide) rfl ⟨1, 0, rfl, ⟨by decide, by decide⟩, fun z => absurd z (by decide), nx _ Ex9.rf⟩⟩
    · exact ⟨[(0, 12, 15, 13)], (0, 12, 19, 15), [(0, 12, 23, 17)], rfl, (fa1 ⟨by decide, eIX, clL_13, nceIAeIX hN⟩ fa0), ⟨by decide, by decide⟩, by decide, ⟨eIA, clL_15, caeIA⟩, hd_tail dL_addTrip_19 (by decide) dL_addTrip_21 dL_addTrip_22 (by decide) rfl ⟨2, 0, rfl, ⟨by decide, by decide⟩, fun z => absurd z (by decide), nx _ Ex9.rf⟩⟩
    · exact ⟨[(0, 12, 15, 13), (0, 12, 19, 15)], (0, 12, 23, 17), [], rfl, (fa1 ⟨by decide, eIX, clL_13, nceISeIX hN⟩ (fa1 ⟨by decide, eIA, clL_15, nceISeIA hN⟩ fa0)), ⟨by decide, by decide⟩, by decide, ⟨eIS, clL_17, caeIS⟩, hd_tail dL_addTrip_23 (by decide) dL_addTrip_25 dL_addTrip_26 (by decide) rfl ⟨3, 0, rfl, ⟨by decide, by decide⟩, fun z => absurd z (by decide), nx _ Ex9.rf⟩⟩
theorem w_cancel {G : GT} {M : Mem} (hN : NC G) (h : Rel M) {t a : Int} (ht : I32 t) (ha : a = 0 ∨ a = 1) : CallH G 10 4 zL_cancel [rr G 0 0 0, iv t, iv a, rr G 9 0 0] M (WrB G 3 zX12_cancel [rr G 8 0 0, iv t, iv a]) noX := by
  refine callH_intro (lv := [(0, rr G 0 0 0), (1, iv t), (2, iv a), (3, rr G 9 0 0)]) (by decide) (Nat.le_of_ble_eq_true rfl) rfl ?_
  refine ev_aload_n (j := 3) dL_cancel_0 rfl rfl ?_
  refine ev_iconst dL_cancel_1 ?_
  refine ev_aload_n (j := 0) dL_cancel_2 rfl rfl ?_
  refine ev_iload_n (j := 1) dL_cancel_3 rfl rfl ?_
  refine ev_iload_n (j := 2) dL_cancel_4 rfl rfl ?_
  refine ev_callVH (n := 2) (As := [iv t, iv a]) (st := [iv 0, rr G 9 0 0]) mfX11_cancel mlL_30 dL_cancel_5 dm0_0 en0_0 rfl rfl rfl (by decide) (by decide) (by decide) (Nat.le_of_ble_eq_true rfl) (s_cancel h ht ha) (fun r M1 o => ?_) (fun E M1 o => ?_)
  · obtain ⟨v, rfl, hv, nx⟩ := o
    refine ev_nzL 15 16 hv dL_cancel_8 (by decide) dL_cancel_11 dL_cancel_12 (by decide) dL_cancel_15 (by decide) ?_
    refine ev_last (w := v) rfl dL_cancel_16 ?_
    refine ev_goto 28 dL_cancel_17 (by decide) ?_
    refine ev_iconst dL_cancel_28 ?_
    refine ev_sub [] rfl ?_
    exact ev_iret dL_cancel_29 (by decide) rfl ⟨0, v, rfl, ⟨by decide, by decide⟩, fun _ => ⟨wr_at _ _ _ _ _ _, hv⟩, nx _ Ex9.wr⟩
  · rcases o with ⟨rfl, nx⟩ | ⟨o2, rfl, nx⟩ | ⟨o3, rfl, nx⟩
    · exact ⟨[], (0, 17, 20, 13), [(0, 17, 24, 17)], rfl, fa0, ⟨by decide, by decide⟩, by decide, ⟨eIX, clL_13, caeIX⟩, hd_tail dL_cancel_20 (by decide) dL_cancel_22 dL_cancel_23 (by decide) rfl ⟨1, 0, rfl, ⟨by decide, by decide⟩, fun z => absurd z (by decide), nx _ Ex9.rf⟩⟩
    · exact ⟨[(0, 17, 20, 13)], (0, 17, 24, 17), [], rfl, (fa1 ⟨by decide, eIX, clL_13, nceISeIX hN⟩ fa0), ⟨by decide, by decide⟩, by decide, ⟨eIS, clL_17, caeIS⟩, hd_tail dL_cancel_24 (by decide) dL_cancel_26 dL_cancel_27 (by decide) rfl ⟨2, 0, rfl, ⟨by decide, by decide⟩, fun z => absurd z (by decide), nx _ Ex9.rf⟩⟩
    · exact absurd o3 (by decide)
theorem w_trip {G : GT} {M : Mem} (hN : NC G) (h : Rel M) {t v : Int} (hti : I32 t) (hvi : I32 v) : CallH G 10 4 zL_trip [rr G 0 0 0, iv t, iv v, rr G 9 0 0] M (WrI G 3 zX12_trip [rr G 8 0 0, iv t, iv v]) noX := by
  refine callH_intro (lv := [(0, rr G 0 0 0), (1, iv t), (2, iv v), (3, rr G 9 0 0)]) (by decide) (Nat.le_of_ble_eq_true rfl) rfl ?_
  refine ev_aload_n (j := 3) dL_trip_0 rfl rfl ?_
  refine ev_iconst dL_trip_1 ?_
  refine ev_aload_n (j := 0) dL_trip_2 rfl rfl ?_
  refine ev_iload_n (j := 1) dL_trip_3 rfl rfl ?_
  refine ev_iload_n (j := 2) dL_trip_4 rfl rfl ?_
  refine ev_callVH (n := 2) (As := [iv t, iv v]) (st := [iv 0, rr G 9 0 0]) mfX11_trip mlL_33 dL_trip_5 dm0_0 en0_0 rfl rfl rfl (by decide) (by decide) (by decide) (Nat.le_of_ble_eq_true rfl) (s_trip h hti hvi) (fun r M1 o => ?_) (fun E M1 o => ?_)
  · obtain ⟨v, rfl, nx⟩ := o
    refine ev_i2l dL_trip_8 ?_
    refine ev_last (w := (J v).toInt) (J64 v) dL_trip_9 ?_
    refine ev_goto 21 dL_trip_10 (by decide) ?_
    refine ev_iconst dL_trip_21 ?_
    refine ev_sub [] rfl ?_
    exact ev_iret dL_trip_22 (by decide) rfl ⟨0, v, rfl, ⟨by decide, by decide⟩, fun _ => wr_at _ _ _ _ _ _, nx _ Ex9.wr⟩
  · rcases o with ⟨rfl, nx⟩ | ⟨o2, rfl, nx⟩ | ⟨o3, rfl, nx⟩
    · exact ⟨[], (0, 10, 13, 13), [(0, 10, 17, 15)], rfl, fa0, ⟨by decide, by decide⟩, by decide, ⟨eIX, clL_13, caeIX⟩, hd_tail dL_trip_13 (by decide) dL_trip_15 dL_trip_16 (by decide) rfl ⟨1, 0, rfl, ⟨by decide, by decide⟩, fun z => absurd z (by decide), nx _ Ex9.rf⟩⟩
    · exact ⟨[(0, 10, 13, 13)], (0, 10, 17, 15), [], rfl, (fa1 ⟨by decide, eIX, clL_13, nceIAeIX hN⟩ fa0), ⟨by decide, by decide⟩, by decide, ⟨eIA, clL_15, caeIA⟩, hd_tail dL_trip_17 (by decide) dL_trip_19 dL_trip_20 (by decide) rfl ⟨2, 0, rfl, ⟨by decide, by decide⟩, fun z => absurd z (by decide), nx _ Ex9.rf⟩⟩
    · exact absurd o3 (by decide)
theorem w_planned {G : GT} {M : Mem} (hN : NC G) (h : Rel M) {t s : Int} (hti : I32 t) (hsi : I32 s) : CallH G 10 4 zL_planned [rr G 0 0 0, iv t, iv s, rr G 9 0 0] M (WrI G 2 zX12_planned [rr G 8 0 0, iv t, iv s]) noX := by
  refine callH_intro (lv := [(0, rr G 0 0 0), (1, iv t), (2, iv s), (3, rr G 9 0 0)]) (by decide) (Nat.le_of_ble_eq_true rfl) rfl ?_
  refine ev_aload_n (j := 3) dL_planned_0 rfl rfl ?_
  refine ev_iconst dL_planned_1 ?_
  refine ev_aload_n (j := 0) dL_planned_2 rfl rfl ?_
  refine ev_iload_n (j := 1) dL_planned_3 rfl rfl ?_
  refine ev_iload_n (j := 2) dL_planned_4 rfl rfl ?_
  refine ev_callVH (n := 2) (As := [iv t, iv s]) (st := [iv 0, rr G 9 0 0]) mfX11_planned mlL_36 dL_planned_5 dm0_0 en0_0 rfl rfl rfl (by decide) (by decide) (by decide) (Nat.le_of_ble_eq_true rfl) (s_planned h hti hsi) (fun r M1 o => ?_) (fun E M1 o => ?_)
  · obtain ⟨v, rfl, nx⟩ := o
    refine ev_i2l dL_planned_8 ?_
    refine ev_last (w := (J v).toInt) (J64 v) dL_planned_9 ?_
    refine ev_goto 21 dL_planned_10 (by decide) ?_
    refine ev_iconst dL_planned_21 ?_
    refine ev_sub [] rfl ?_
    exact ev_iret dL_planned_22 (by decide) rfl ⟨0, v, rfl, ⟨by decide, by decide⟩, fun _ => wr_at _ _ _ _ _ _, nx _ Ex9.wr⟩
  · rcases o with ⟨rfl, nx⟩ | ⟨o2, rfl, nx⟩ | ⟨o3, rfl, nx⟩
    · exact ⟨[], (0, 10, 13, 13), [(0, 10, 17, 39)], rfl, fa0, ⟨by decide, by decide⟩, by decide, ⟨eIX, clL_13, caeIX⟩, hd_tail dL_planned_13 (by decide) dL_planned_15 dL_planned_16 (by decide) rfl ⟨1, 0, rfl, ⟨by decide, by decide⟩, fun z => absurd z (by decide), nx _ Ex9.rf⟩⟩
    · exact ⟨[(0, 10, 13, 13)], (0, 10, 17, 39), [], rfl, (fa1 ⟨by decide, eIX, clL_13, ncnsEeIX hN⟩ fa0), ⟨by decide, by decide⟩, by decide, ⟨nsE, clL_39, cansE⟩, hd_tail dL_planned_17 (by decide) dL_planned_19 dL_planned_20 (by decide) rfl ⟨2, 0, rfl, ⟨by decide, by decide⟩, fun z => absurd z (by decide), nx _ Ex9.rf⟩⟩
    · exact absurd o3 (by decide)
theorem w_count {G : GT} {M : Mem} (hN : NC G) (h : Rel M) {v : Int} (hi : I32 v) : CallH G 10 4 zL_count [rr G 0 0 0, iv v, rr G 9 0 0] M (WrI G 2 zX12_count [rr G 8 0 0, iv v]) noX := by
  refine callH_intro (lv := [(0, rr G 0 0 0), (1, iv v), (2, rr G 9 0 0)]) (by decide) (Nat.le_of_ble_eq_true rfl) rfl ?_
  refine ev_aload_n (j := 2) dL_count_0 rfl rfl ?_
  refine ev_iconst dL_count_1 ?_
  refine ev_aload_n (j := 0) dL_count_2 rfl rfl ?_
  refine ev_iload_n (j := 1) dL_count_3 rfl rfl ?_
  refine ev_callVH (n := 1) (As := [iv v]) (st := [iv 0, rr G 9 0 0]) mfX11_count mlL_41 dL_count_4 dm0_0 en0_0 rfl rfl rfl (by decide) (by decide) (by decide) (Nat.le_of_ble_eq_true rfl) (s_count h hi) (fun r M1 o => ?_) (fun E M1 o => ?_)
  · obtain ⟨v, rfl, nx⟩ := o
    refine ev_i2l dL_count_7 ?_
    refine ev_last (w := (J v).toInt) (J64 v) dL_count_8 ?_
    refine ev_goto 15 dL_count_9 (by decide) ?_
    refine ev_iconst dL_count_15 ?_
    refine ev_sub [] rfl ?_
    exact ev_iret dL_count_16 (by decide) rfl ⟨0, v, rfl, ⟨by decide, by decide⟩, fun _ => wr_at _ _ _ _ _ _, nx _ Ex9.wr⟩
  · rcases o with ⟨rfl, nx⟩ | ⟨o2, rfl, nx⟩ | ⟨o3, rfl, nx⟩
    · exact ⟨[], (0, 9, 12, 15), [], rfl, fa0, ⟨by decide, by decide⟩, by decide, ⟨eIA, clL_15, caeIA⟩, hd_tailn dL_count_12 rfl (by decide) dL_count_13 dL_count_14 (by decide) rfl ⟨1, 0, rfl, ⟨by decide, by decide⟩, fun z => absurd z (by decide), nx _ Ex9.rf⟩⟩
    · exact absurd o2 (by decide)
    · exact absurd o3 (by decide)
theorem w_passage {G : GT} {M : Mem} (hN : NC G) (h : Rel M) {a s p w : Int} (ha : I32 a) (hs : I32 s) (hp : I32 p) (hw : I32 w) : CallH G 10 4 zL_passage [rr G 0 0 0, iv a, iv s, iv p, iv w, rr G 9 0 0] M (WrI G 4 zX12_passage [rr G 8 0 0, iv a, iv s, iv p, iv w]) noX := by
  refine callH_intro (lv := [(0, rr G 0 0 0), (1, iv a), (2, iv s), (3, iv p), (4, iv w), (5, rr G 9 0 0)]) (by decide) (Nat.le_of_ble_eq_true rfl) rfl ?_
  refine ev_aload (j := 5) dL_passage_0 rfl ?_
  refine ev_iconst dL_passage_2 ?_
  refine ev_aload_n (j := 0) dL_passage_3 rfl rfl ?_
  refine ev_iload_n (j := 1) dL_passage_4 rfl rfl ?_
  refine ev_iload_n (j := 2) dL_passage_5 rfl rfl ?_
  refine ev_iload_n (j := 3) dL_passage_6 rfl rfl ?_
  refine ev_iload (j := 4) dL_passage_7 rfl ?_
  refine ev_callVH (n := 4) (As := [iv a, iv s, iv p, iv w]) (st := [iv 0, rr G 9 0 0]) mfX11_passage mlL_45 dL_passage_9 dm0_0 en0_0 rfl rfl rfl (by decide) (by decide) (by decide) (Nat.le_of_ble_eq_true rfl) (s_passage h ha hs hp hw) (fun r M1 o => ?_) (fun E M1 o => ?_)
  · obtain ⟨v, rfl, nx⟩ := o
    refine ev_i2l dL_passage_12 ?_
    refine ev_last (w := (J v).toInt) (J64 v) dL_passage_13 ?_
    refine ev_goto 25 dL_passage_14 (by decide) ?_
    refine ev_iconst dL_passage_25 ?_
    refine ev_sub [] rfl ?_
    exact ev_iret dL_passage_26 (by decide) rfl ⟨0, v, rfl, ⟨by decide, by decide⟩, fun _ => wr_at _ _ _ _ _ _, nx _ Ex9.wr⟩
  · rcases o with ⟨rfl, nx⟩ | ⟨o2, rfl, nx⟩ | ⟨o3, rfl, nx⟩
    · exact ⟨[], (0, 14, 17, 13), [(0, 14, 21, 39)], rfl, fa0, ⟨by decide, by decide⟩, by decide, ⟨eIX, clL_13, caeIX⟩, hd_tail dL_passage_17 (by decide) dL_passage_19 dL_passage_20 (by decide) rfl ⟨1, 0, rfl, ⟨by decide, by decide⟩, fun z => absurd z (by decide), nx _ Ex9.rf⟩⟩
    · exact ⟨[(0, 14, 17, 13)], (0, 14, 21, 39), [], rfl, (fa1 ⟨by decide, eIX, clL_13, ncnsEeIX hN⟩ fa0), ⟨by decide, by decide⟩, by decide, ⟨nsE, clL_39, cansE⟩, hd_tail dL_passage_21 (by decide) dL_passage_23 dL_passage_24 (by decide) rfl ⟨2, 0, rfl, ⟨by decide, by decide⟩, fun z => absurd z (by decide), nx _ Ex9.rf⟩⟩
    · exact absurd o3 (by decide)
theorem w_bunches {G : GT} {M : Mem} (hN : NC G) (h : Rel M) {a b : Int} (ha : I32 a) (hb : I32 b) : CallH G 10 4 zL_bunches [rr G 0 0 0, iv a, iv b, rr G 9 0 0] M (WrI G 4 zX12_bunches [rr G 8 0 0, iv a, iv b]) noX := by
  refine callH_intro (lv := [(0, rr G 0 0 0), (1, iv a), (2, iv b), (3, rr G 9 0 0)]) (by decide) (Nat.le_of_ble_eq_true rfl) rfl ?_
  refine ev_aload_n (j := 3) dL_bunches_0 rfl rfl ?_
  refine ev_iconst dL_bunches_1 ?_
  refine ev_aload_n (j := 0) dL_bunches_2 rfl rfl ?_
  refine ev_iload_n (j := 1) dL_bunches_3 rfl rfl ?_
  refine ev_iload_n (j := 2) dL_bunches_4 rfl rfl ?_
  refine ev_callVH (n := 2) (As := [iv a, iv b]) (st := [iv 0, rr G 9 0 0]) mfX11_bunches mlL_49 dL_bunches_5 dm0_0 en0_0 rfl rfl rfl (by decide) (by decide) (by decide) (Nat.le_of_ble_eq_true rfl) (s_bunches h ha hb) (fun r M1 o => ?_) (fun E M1 o => ?_)
  · obtain ⟨v, rfl, nx⟩ := o
    refine ev_i2l dL_bunches_8 ?_
    refine ev_last (w := (J v).toInt) (J64 v) dL_bunches_9 ?_
    refine ev_goto 17 dL_bunches_10 (by decide) ?_
    refine ev_iconst dL_bunches_17 ?_
    refine ev_sub [] rfl ?_
    exact ev_iret dL_bunches_18 (by decide) rfl ⟨0, v, rfl, ⟨by decide, by decide⟩, fun _ => wr_at _ _ _ _ _ _, nx _ Ex9.wr⟩
  · rcases o with ⟨rfl, nx⟩ | ⟨o2, rfl, nx⟩ | ⟨o3, rfl, nx⟩
    · exact ⟨[], (0, 10, 13, 13), [], rfl, fa0, ⟨by decide, by decide⟩, by decide, ⟨eIX, clL_13, caeIX⟩, hd_tail dL_bunches_13 (by decide) dL_bunches_15 dL_bunches_16 (by decide) rfl ⟨1, 0, rfl, ⟨by decide, by decide⟩, fun z => absurd z (by decide), nx _ Ex9.rf⟩⟩
    · exact absurd o2 (by decide)
    · exact absurd o3 (by decide)
theorem w_headway {G : GT} {M : Mem} (hN : NC G) (h : Rel M) {a s w : Int} (ha : I32 a) (hs : I32 s) (hw : I32 w) : CallH G 10 4 zL_headway [rr G 0 0 0, iv a, iv s, iv w, rr G 9 0 0] M (WrI G 4 zX12_headway [rr G 8 0 0, iv a, iv s, iv w]) noX := by
  refine callH_intro (lv := [(0, rr G 0 0 0), (1, iv a), (2, iv s), (3, iv w), (4, rr G 9 0 0)]) (by decide) (Nat.le_of_ble_eq_true rfl) rfl ?_
  refine ev_aload (j := 4) dL_headway_0 rfl ?_
  refine ev_iconst dL_headway_2 ?_
  refine ev_aload_n (j := 0) dL_headway_3 rfl rfl ?_
  refine ev_iload_n (j := 1) dL_headway_4 rfl rfl ?_
  refine ev_iload_n (j := 2) dL_headway_5 rfl rfl ?_
  refine ev_iload_n (j := 3) dL_headway_6 rfl rfl ?_
  refine ev_callVH (n := 3) (As := [iv a, iv s, iv w]) (st := [iv 0, rr G 9 0 0]) mfX11_headway mlL_52 dL_headway_7 dm0_0 en0_0 rfl rfl rfl (by decide) (by decide) (by decide) (Nat.le_of_ble_eq_true rfl) (s_headway h ha hs hw) (fun r M1 o => ?_) (fun E M1 o => ?_)
  · obtain ⟨v, rfl, nx⟩ := o
    refine ev_i2l dL_headway_10 ?_
    refine ev_last (w := (J v).toInt) (J64 v) dL_headway_11 ?_
    refine ev_goto 23 dL_headway_12 (by decide) ?_
    refine ev_iconst dL_headway_23 ?_
    refine ev_sub [] rfl ?_
    exact ev_iret dL_headway_24 (by decide) rfl ⟨0, v, rfl, ⟨by decide, by decide⟩, fun _ => wr_at _ _ _ _ _ _, nx _ Ex9.wr⟩
  · rcases o with ⟨rfl, nx⟩ | ⟨o2, rfl, nx⟩ | ⟨o3, rfl, nx⟩
    · exact ⟨[], (0, 12, 15, 13), [(0, 12, 19, 39)], rfl, fa0, ⟨by decide, by decide⟩, by decide, ⟨eIX, clL_13, caeIX⟩, hd_tail dL_headway_15 (by decide) dL_headway_17 dL_headway_18 (by decide) rfl ⟨1, 0, rfl, ⟨by decide, by decide⟩, fun z => absurd z (by decide), nx _ Ex9.rf⟩⟩
    · exact ⟨[(0, 12, 15, 13)], (0, 12, 19, 39), [], rfl, (fa1 ⟨by decide, eIX, clL_13, ncnsEeIX hN⟩ fa0), ⟨by decide, by decide⟩, by decide, ⟨nsE, clL_39, cansE⟩, hd_tail dL_headway_19 (by decide) dL_headway_21 dL_headway_22 (by decide) rfl ⟨2, 0, rfl, ⟨by decide, by decide⟩, fun z => absurd z (by decide), nx _ Ex9.rf⟩⟩
    · exact absurd o3 (by decide)
theorem w_meanHeadway {G : GT} {M : Mem} (hN : NC G) (h : Rel M) {a s : Int} (ha : I32 a) (hs : I32 s) : CallH G 10 4 zL_meanHeadway [rr G 0 0 0, iv a, iv s, rr G 9 0 1] M (WrD G 4 zX12_meanHeadway [rr G 8 0 0, iv a, iv s]) noX := by
  refine callH_intro (lv := [(0, rr G 0 0 0), (1, iv a), (2, iv s), (3, rr G 9 0 1)]) (by decide) (Nat.le_of_ble_eq_true rfl) rfl ?_
  refine ev_aload_n (j := 3) dL_meanHeadway_0 rfl rfl ?_
  refine ev_iconst dL_meanHeadway_1 ?_
  refine ev_aload_n (j := 0) dL_meanHeadway_2 rfl rfl ?_
  refine ev_iload_n (j := 1) dL_meanHeadway_3 rfl rfl ?_
  refine ev_iload_n (j := 2) dL_meanHeadway_4 rfl rfl ?_
  refine ev_callVH (n := 2) (As := [iv a, iv s]) (st := [iv 0, rr G 9 0 1]) mfX11_meanHeadway mlL_56 dL_meanHeadway_5 dm0_0 en0_0 rfl rfl rfl (by decide) (by decide) (by decide) (Nat.le_of_ble_eq_true rfl) (s_meanHeadway h ha hs) (fun r M1 o => ?_) (fun E M1 o => ?_)
  · obtain ⟨v, rfl, nx⟩ := o
    refine ev_dast dL_meanHeadway_8 ?_
    refine ev_goto 20 dL_meanHeadway_9 (by decide) ?_
    refine ev_iconst dL_meanHeadway_20 ?_
    refine ev_sub [] rfl ?_
    exact ev_iret dL_meanHeadway_21 (by decide) rfl ⟨0, v, rfl, ⟨by decide, by decide⟩, fun _ => wr_at _ _ _ _ _ _, nx _ Ex9.wr⟩
  · rcases o with ⟨rfl, nx⟩ | ⟨o2, rfl, nx⟩
    · exact ⟨[], (0, 9, 12, 13), [(0, 9, 16, 60)], rfl, fa0, ⟨by decide, by decide⟩, by decide, ⟨eIX, clL_13, caeIX⟩, hd_tail dL_meanHeadway_12 (by decide) dL_meanHeadway_14 dL_meanHeadway_15 (by decide) rfl ⟨1, FP.dconst0, rfl, ⟨by decide, by decide⟩, fun z => absurd z (by decide), nx _ Ex9.rf⟩⟩
    · exact ⟨[(0, 9, 12, 13)], (0, 9, 16, 60), [], rfl, (fa1 ⟨by decide, eIX, clL_13, nceAReIX hN⟩ fa0), ⟨by decide, by decide⟩, by decide, ⟨eAR, clL_60, caeAR⟩, hd_tail dL_meanHeadway_16 (by decide) dL_meanHeadway_18 dL_meanHeadway_19 (by decide) rfl ⟨2, FP.dconst0, rfl, ⟨by decide, by decide⟩, fun z => absurd z (by decide), nx _ Ex9.rf⟩⟩
theorem w_addVehicle {G : GT} {M : Mem} (hN : NC G) (h : Rel M) {a : Int} (ha : I32 a) : CallH G 10 4 zL_addVehicle [rr G 0 0 0, iv a, rr G 9 0 0] M (WrI G 2 zX12_addVehicle [rr G 8 0 0, iv a]) noX := by
  refine callH_intro (lv := [(0, rr G 0 0 0), (1, iv a), (2, rr G 9 0 0)]) (by decide) (Nat.le_of_ble_eq_true rfl) rfl ?_
  refine ev_aload_n (j := 2) dL_addVehicle_0 rfl rfl ?_
  refine ev_iconst dL_addVehicle_1 ?_
  refine ev_aload_n (j := 0) dL_addVehicle_2 rfl rfl ?_
  refine ev_iload_n (j := 1) dL_addVehicle_3 rfl rfl ?_
  refine ev_callVH (n := 1) (As := [iv a]) (st := [iv 0, rr G 9 0 0]) mfX11_addVehicle mlL_62 dL_addVehicle_4 dm0_0 en0_0 rfl rfl rfl (by decide) (by decide) (by decide) (Nat.le_of_ble_eq_true rfl) (s_addVehicle h ha) (fun r M1 o => ?_) (fun E M1 o => ?_)
  · obtain ⟨v, rfl, nx⟩ := o
    refine ev_i2l dL_addVehicle_7 ?_
    refine ev_last (w := (J v).toInt) (J64 v) dL_addVehicle_8 ?_
    refine ev_goto 18 dL_addVehicle_9 (by decide) ?_
    refine ev_iconst dL_addVehicle_18 ?_
    refine ev_sub [] rfl ?_
    exact ev_iret dL_addVehicle_19 (by decide) rfl ⟨0, v, rfl, ⟨by decide, by decide⟩, fun _ => wr_at _ _ _ _ _ _, nx _ Ex9.wr⟩
  · rcases o with ⟨rfl, nx⟩ | ⟨o2, rfl, nx⟩ | ⟨o3, rfl, nx⟩
    · exact ⟨[], (0, 9, 12, 13), [(0, 9, 15, 17)], rfl, fa0, ⟨by decide, by decide⟩, by decide, ⟨eIX, clL_13, caeIX⟩, hd_tailn dL_addVehicle_12 rfl (by decide) dL_addVehicle_13 dL_addVehicle_14 (by decide) rfl ⟨1, 0, rfl, ⟨by decide, by decide⟩, fun z => absurd z (by decide), nx _ Ex9.rf⟩⟩
    · exact ⟨[(0, 9, 12, 13)], (0, 9, 15, 17), [], rfl, (fa1 ⟨by decide, eIX, clL_13, nceISeIX hN⟩ fa0), ⟨by decide, by decide⟩, by decide, ⟨eIS, clL_17, caeIS⟩, hd_tailn dL_addVehicle_15 rfl (by decide) dL_addVehicle_16 dL_addVehicle_17 (by decide) rfl ⟨2, 0, rfl, ⟨by decide, by decide⟩, fun z => absurd z (by decide), nx _ Ex9.rf⟩⟩
    · exact absurd o3 (by decide)
theorem w_give {G : GT} {M : Mem} (hN : NC G) (h : Rel M) {t v : Int} (ht : I32 t) (hv : I32 v) : CallH G 10 4 zL_give [rr G 0 0 0, iv t, iv v, rr G 9 0 0] M (WrI G 4 zX12_give [rr G 8 0 0, iv t, iv v]) noX := by
  refine callH_intro (lv := [(0, rr G 0 0 0), (1, iv t), (2, iv v), (3, rr G 9 0 0)]) (by decide) (Nat.le_of_ble_eq_true rfl) rfl ?_
  refine ev_aload_n (j := 3) dL_give_0 rfl rfl ?_
  refine ev_iconst dL_give_1 ?_
  refine ev_aload_n (j := 0) dL_give_2 rfl rfl ?_
  refine ev_iload_n (j := 1) dL_give_3 rfl rfl ?_
  refine ev_iload_n (j := 2) dL_give_4 rfl rfl ?_
  refine ev_callVH (n := 2) (As := [iv t, iv v]) (st := [iv 0, rr G 9 0 0]) mfX11_give mlL_65 dL_give_5 dm0_0 en0_0 rfl rfl rfl (by decide) (by decide) (by decide) (Nat.le_of_ble_eq_true rfl) (s_give h ht hv) (fun r M1 o => ?_) (fun E M1 o => ?_)
  · obtain ⟨v, rfl, nx⟩ := o
    refine ev_i2l dL_give_8 ?_
    refine ev_last (w := (J v).toInt) (J64 v) dL_give_9 ?_
    refine ev_goto 21 dL_give_10 (by decide) ?_
    refine ev_iconst dL_give_21 ?_
    refine ev_sub [] rfl ?_
    exact ev_iret dL_give_22 (by decide) rfl ⟨0, v, rfl, ⟨by decide, by decide⟩, fun _ => wr_at _ _ _ _ _ _, nx _ Ex9.wr⟩
  · rcases o with ⟨rfl, nx⟩ | ⟨o2, rfl, nx⟩ | ⟨o3, rfl, nx⟩
    · exact ⟨[], (0, 10, 13, 13), [(0, 10, 17, 68)], rfl, fa0, ⟨by decide, by decide⟩, by decide, ⟨eIX, clL_13, caeIX⟩, hd_tail dL_give_13 (by decide) dL_give_15 dL_give_16 (by decide) rfl ⟨1, 0, rfl, ⟨by decide, by decide⟩, fun z => absurd z (by decide), nx _ Ex9.rf⟩⟩
    · exact ⟨[(0, 10, 13, 13)], (0, 10, 17, 68), [], rfl, (fa1 ⟨by decide, eIX, clL_13, nceUOeIX hN⟩ fa0), ⟨by decide, by decide⟩, by decide, ⟨eUO, clL_68, caeUO⟩, hd_tail dL_give_17 (by decide) dL_give_19 dL_give_20 (by decide) rfl ⟨2, 0, rfl, ⟨by decide, by decide⟩, fun z => absurd z (by decide), nx _ Ex9.rf⟩⟩
    · exact absurd o3 (by decide)
theorem w_giveRound {G : GT} {M : Mem} (hN : NC G) (h : Rel M) {f s v : Int} (hf : I32 f) (hs : I32 s) (hv : I32 v) : CallH G 10 4 zL_giveRound [rr G 0 0 0, iv f, iv s, iv v, rr G 9 0 0] M (WrI G 4 zX12_giveRound [rr G 8 0 0, iv f, iv s, iv v]) noX := by
  refine callH_intro (lv := [(0, rr G 0 0 0), (1, iv f), (2, iv s), (3, iv v), (4, rr G 9 0 0)]) (by decide) (Nat.le_of_ble_eq_true rfl) rfl ?_
  refine ev_aload (j := 4) dL_giveRound_0 rfl ?_
  refine ev_iconst dL_giveRound_2 ?_
  refine ev_aload_n (j := 0) dL_giveRound_3 rfl rfl ?_
  refine ev_iload_n (j := 1) dL_giveRound_4 rfl rfl ?_
  refine ev_iload_n (j := 2) dL_giveRound_5 rfl rfl ?_
  refine ev_iload_n (j := 3) dL_giveRound_6 rfl rfl ?_
  refine ev_callVH (n := 3) (As := [iv f, iv s, iv v]) (st := [iv 0, rr G 9 0 0]) mfX11_giveRound mlL_70 dL_giveRound_7 dm0_0 en0_0 rfl rfl rfl (by decide) (by decide) (by decide) (Nat.le_of_ble_eq_true rfl) (s_giveRound h hf hs hv) (fun r M1 o => ?_) (fun E M1 o => ?_)
  · obtain ⟨v, rfl, nx⟩ := o
    refine ev_i2l dL_giveRound_10 ?_
    refine ev_last (w := (J v).toInt) (J64 v) dL_giveRound_11 ?_
    refine ev_goto 23 dL_giveRound_12 (by decide) ?_
    refine ev_iconst dL_giveRound_23 ?_
    refine ev_sub [] rfl ?_
    exact ev_iret dL_giveRound_24 (by decide) rfl ⟨0, v, rfl, ⟨by decide, by decide⟩, fun _ => wr_at _ _ _ _ _ _, nx _ Ex9.wr⟩
  · rcases o with ⟨rfl, nx⟩ | ⟨o2, rfl, nx⟩ | ⟨o3, rfl, nx⟩
    · exact ⟨[], (0, 12, 15, 13), [(0, 12, 19, 68)], rfl, fa0, ⟨by decide, by decide⟩, by decide, ⟨eIX, clL_13, caeIX⟩, hd_tail dL_giveRound_15 (by decide) dL_giveRound_17 dL_giveRound_18 (by decide) rfl ⟨1, 0, rfl, ⟨by decide, by decide⟩, fun z => absurd z (by decide), nx _ Ex9.rf⟩⟩
    · exact ⟨[(0, 12, 15, 13)], (0, 12, 19, 68), [], rfl, (fa1 ⟨by decide, eIX, clL_13, nceUOeIX hN⟩ fa0), ⟨by decide, by decide⟩, by decide, ⟨eUO, clL_68, caeUO⟩, hd_tail dL_giveRound_19 (by decide) dL_giveRound_21 dL_giveRound_22 (by decide) rfl ⟨2, 0, rfl, ⟨by decide, by decide⟩, fun z => absurd z (by decide), nx _ Ex9.rf⟩⟩
    · exact absurd o3 (by decide)
theorem w_refusal {G : GT} {M : Mem} (hN : NC G) (h : Rel M) : CallH G 10 4 zL_refusal [rr G 0 0 0, rr G 9 0 0] M (WrI G 0 zX12_refusal [rr G 8 0 0]) noX := by
  refine callH_intro (lv := [(0, rr G 0 0 0), (1, rr G 9 0 0)]) (by decide) (Nat.le_of_ble_eq_true rfl) rfl ?_
  refine ev_aload_n (j := 1) dL_refusal_0 rfl rfl ?_
  refine ev_iconst dL_refusal_1 ?_
  refine ev_aload_n (j := 0) dL_refusal_2 rfl rfl ?_
  refine ev_callVH (n := 0) (As := []) (st := [iv 0, rr G 9 0 0]) mfX11_refusal mlL_73 dL_refusal_3 dm0_0 en0_0 rfl rfl rfl (by decide) (by decide) (by decide) (Nat.le_of_ble_eq_true rfl) (s_refusal h) (fun r M1 o => ?_) (fun E M1 o => ?_)
  · obtain ⟨v, rfl, nx⟩ := o
    refine ev_i2l dL_refusal_6 ?_
    refine ev_last (w := (J v).toInt) (J64 v) dL_refusal_7 ?_
    refine ev_goto 14 dL_refusal_8 (by decide) ?_
    refine ev_iconst dL_refusal_14 ?_
    refine ev_sub [] rfl ?_
    exact ev_iret dL_refusal_15 (by decide) rfl ⟨0, v, rfl, ⟨by decide, by decide⟩, fun _ => wr_at _ _ _ _ _ _, nx _ Ex9.wr⟩
  · rcases o with ⟨rfl, nx⟩ | ⟨o2, rfl, nx⟩ | ⟨o3, rfl, nx⟩
    · exact ⟨[], (0, 8, 11, 39), [], rfl, fa0, ⟨by decide, by decide⟩, by decide, ⟨nsE, clL_39, cansE⟩, hd_tailn dL_refusal_11 rfl (by decide) dL_refusal_12 dL_refusal_13 (by decide) rfl ⟨1, 0, rfl, ⟨by decide, by decide⟩, fun z => absurd z (by decide), nx _ Ex9.rf⟩⟩
    · exact absurd o2 (by decide)
    · exact absurd o3 (by decide)
theorem w_wouldRefuse {G : GT} {M : Mem} (hN : NC G) (h : Rel M) {t v : Int} (hti : I32 t) (hvi : I32 v) : CallH G 10 4 zL_wouldRefuse [rr G 0 0 0, iv t, iv v, rr G 9 0 0] M (WrI G 4 zX12_wouldRefuse [rr G 8 0 0, iv t, iv v]) noX := by
  refine callH_intro (lv := [(0, rr G 0 0 0), (1, iv t), (2, iv v), (3, rr G 9 0 0)]) (by decide) (Nat.le_of_ble_eq_true rfl) rfl ?_
  refine ev_aload_n (j := 3) dL_wouldRefuse_0 rfl rfl ?_
  refine ev_iconst dL_wouldRefuse_1 ?_
  refine ev_aload_n (j := 0) dL_wouldRefuse_2 rfl rfl ?_
  refine ev_iload_n (j := 1) dL_wouldRefuse_3 rfl rfl ?_
  refine ev_iload_n (j := 2) dL_wouldRefuse_4 rfl rfl ?_
  refine ev_callVH (n := 2) (As := [iv t, iv v]) (st := [iv 0, rr G 9 0 0]) mfX11_wouldRefuse mlL_77 dL_wouldRefuse_5 dm0_0 en0_0 rfl rfl rfl (by decide) (by decide) (by decide) (Nat.le_of_ble_eq_true rfl) (s_wouldRefuse h hti hvi) (fun r M1 o => ?_) (fun E M1 o => ?_)
  · obtain ⟨v, rfl, nx⟩ := o
    refine ev_i2l dL_wouldRefuse_8 ?_
    refine ev_last (w := (J v).toInt) (J64 v) dL_wouldRefuse_9 ?_
    refine ev_goto 17 dL_wouldRefuse_10 (by decide) ?_
    refine ev_iconst dL_wouldRefuse_17 ?_
    refine ev_sub [] rfl ?_
    exact ev_iret dL_wouldRefuse_18 (by decide) rfl ⟨0, v, rfl, ⟨by decide, by decide⟩, fun _ => wr_at _ _ _ _ _ _, nx _ Ex9.wr⟩
  · rcases o with ⟨rfl, nx⟩ | ⟨o2, rfl, nx⟩ | ⟨o3, rfl, nx⟩
    · exact ⟨[], (0, 10, 13, 13), [], rfl, fa0, ⟨by decide, by decide⟩, by decide, ⟨eIX, clL_13, caeIX⟩, hd_tail dL_wouldRefuse_13 (by decide) dL_wouldRefuse_15 dL_wouldRefuse_16 (by decide) rfl ⟨1, 0, rfl, ⟨by decide, by decide⟩, fun z => absurd z (by decide), nx _ Ex9.rf⟩⟩
    · exact absurd o2 (by decide)
    · exact absurd o3 (by decide)
theorem w_take {G : GT} {M : Mem} (hN : NC G) (h : Rel M) {v : Int} (hv : I32 v) : CallH G 10 4 zL_take [rr G 0 0 0, iv v, rr G 9 0 0] M (WrI G 2 zX12_take [rr G 8 0 0, iv v]) noX := by
  refine callH_intro (lv := [(0, rr G 0 0 0), (1, iv v), (2, rr G 9 0 0)]) (by decide) (Nat.le_of_ble_eq_true rfl) rfl ?_
  refine ev_aload_n (j := 2) dL_take_0 rfl rfl ?_
  refine ev_iconst dL_take_1 ?_
  refine ev_aload_n (j := 0) dL_take_2 rfl rfl ?_
  refine ev_iload_n (j := 1) dL_take_3 rfl rfl ?_
  refine ev_callVH (n := 1) (As := [iv v]) (st := [iv 0, rr G 9 0 0]) mfX11_take mlL_80 dL_take_4 dm0_0 en0_0 rfl rfl rfl (by decide) (by decide) (by decide) (Nat.le_of_ble_eq_true rfl) (s_take h hv) (fun r M1 o => ?_) (fun E M1 o => ?_)
  · obtain ⟨v, rfl, nx⟩ := o
    refine ev_i2l dL_take_7 ?_
    refine ev_last (w := (J v).toInt) (J64 v) dL_take_8 ?_
    refine ev_goto 18 dL_take_9 (by decide) ?_
    refine ev_iconst dL_take_18 ?_
    refine ev_sub [] rfl ?_
    exact ev_iret dL_take_19 (by decide) rfl ⟨0, v, rfl, ⟨by decide, by decide⟩, fun _ => wr_at _ _ _ _ _ _, nx _ Ex9.wr⟩
  · rcases o with ⟨rfl, nx⟩ | ⟨o2, rfl, nx⟩ | ⟨o3, rfl, nx⟩
    · exact ⟨[], (0, 9, 12, 13), [(0, 9, 15, 39)], rfl, fa0, ⟨by decide, by decide⟩, by decide, ⟨eIX, clL_13, caeIX⟩, hd_tailn dL_take_12 rfl (by decide) dL_take_13 dL_take_14 (by decide) rfl ⟨1, 0, rfl, ⟨by decide, by decide⟩, fun z => absurd z (by decide), nx _ Ex9.rf⟩⟩
    · exact ⟨[(0, 9, 12, 13)], (0, 9, 15, 39), [], rfl, (fa1 ⟨by decide, eIX, clL_13, ncnsEeIX hN⟩ fa0), ⟨by decide, by decide⟩, by decide, ⟨nsE, clL_39, cansE⟩, hd_tailn dL_take_15 rfl (by decide) dL_take_16 dL_take_17 (by decide) rfl ⟨2, 0, rfl, ⟨by decide, by decide⟩, fun z => absurd z (by decide), nx _ Ex9.rf⟩⟩
    · exact absurd o3 (by decide)
theorem w_exchange {G : GT} {M : Mem} (hN : NC G) (h : Rel M) {v w m : Int} (hv : I32 v) (hw : I32 w) (hm : I32 m) : CallH G 10 4 zL_exchange [rr G 0 0 0, iv v, iv w, iv m, rr G 9 0 0] M (WrI G 5 zX12_exchange [rr G 8 0 0, iv v, iv w, iv m]) noX := by
  refine callH_intro (lv := [(0, rr G 0 0 0), (1, iv v), (2, iv w), (3, iv m), (4, rr G 9 0 0)]) (by decide) (Nat.le_of_ble_eq_true rfl) rfl ?_
  refine ev_aload (j := 4) dL_exchange_0 rfl ?_
  refine ev_iconst dL_exchange_2 ?_
  refine ev_aload_n (j := 0) dL_exchange_3 rfl rfl ?_
  refine ev_iload_n (j := 1) dL_exchange_4 rfl rfl ?_
  refine ev_iload_n (j := 2) dL_exchange_5 rfl rfl ?_
  refine ev_iload_n (j := 3) dL_exchange_6 rfl rfl ?_
  refine ev_callVH (n := 3) (As := [iv v, iv w, iv m]) (st := [iv 0, rr G 9 0 0]) mfX11_exchange mlL_83 dL_exchange_7 dm0_0 en0_0 rfl rfl rfl (by decide) (by decide) (by decide) (Nat.le_of_ble_eq_true rfl) (s_exchange h hv hw hm) (fun r M1 o => ?_) (fun E M1 o => ?_)
  · obtain ⟨v, rfl, nx⟩ := o
    refine ev_i2l dL_exchange_10 ?_
    refine ev_last (w := (J v).toInt) (J64 v) dL_exchange_11 ?_
    refine ev_goto 27 dL_exchange_12 (by decide) ?_
    refine ev_iconst dL_exchange_27 ?_
    refine ev_sub [] rfl ?_
    exact ev_iret dL_exchange_28 (by decide) rfl ⟨0, v, rfl, ⟨by decide, by decide⟩, fun _ => wr_at _ _ _ _ _ _, nx _ Ex9.wr⟩
  · rcases o with ⟨rfl, nx⟩ | ⟨o2, rfl, nx⟩ | ⟨o3, rfl, nx⟩
    · exact ⟨[], (0, 12, 15, 13), [(0, 12, 19, 15), (0, 12, 23, 17)], rfl, fa0, ⟨by decide, by decide⟩, by decide, ⟨eIX, clL_13, caeIX⟩, hd_tail dL_exchange_15 (by decide) dL_exchange_17 dL_exchange_18 (by decide) rfl ⟨1, 0, rfl, ⟨by decide, by decide⟩, fun z => absurd z (by decide), nx _ Ex9.rf⟩⟩
    · exact ⟨[(0, 12, 15, 13)], (0, 12, 19, 15), [(0, 12, 23, 17)], rfl, (fa1 ⟨by decide, eIX, clL_13, nceIAeIX hN⟩ fa0), ⟨by decide, by decide⟩, by decide, ⟨eIA, clL_15, caeIA⟩, hd_tail dL_exchange_19 (by decide) dL_exchange_21 dL_exchange_22 (by decide) rfl ⟨2, 0, rfl, ⟨by decide, by decide⟩, fun z => absurd z (by decide), nx _ Ex9.rf⟩⟩
    · exact ⟨[(0, 12, 15, 13), (0, 12, 19, 15)], (0, 12, 23, 17), [], rfl, (fa1 ⟨by decide, eIX, clL_13, nceISeIX hN⟩ (fa1 ⟨by decide, eIA, clL_15, nceISeIA hN⟩ fa0)), ⟨by decide, by decide⟩, by decide, ⟨eIS, clL_17, caeIS⟩, hd_tail dL_exchange_23 (by decide) dL_exchange_25 dL_exchange_26 (by decide) rfl ⟨3, 0, rfl, ⟨by decide, by decide⟩, fun z => absurd z (by decide), nx _ Ex9.rf⟩⟩
theorem w_duty {G : GT} {M : Mem} (hN : NC G) (h : Rel M) {v p : Int} (hvi : I32 v) (hp : I32 p) : CallH G 10 4 zL_duty [rr G 0 0 0, iv v, iv p, rr G 9 0 0] M (WrI G 2 zX12_duty [rr G 8 0 0, iv v, iv p]) noX := by
  refine callH_intro (lv := [(0, rr G 0 0 0), (1, iv v), (2, iv p), (3, rr G 9 0 0)]) (by decide) (Nat.le_of_ble_eq_true rfl) rfl ?_
  refine ev_aload_n (j := 3) dL_duty_0 rfl rfl ?_
  refine ev_iconst dL_duty_1 ?_
  refine ev_aload_n (j := 0) dL_duty_2 rfl rfl ?_
  refine ev_iload_n (j := 1) dL_duty_3 rfl rfl ?_
  refine ev_iload_n (j := 2) dL_duty_4 rfl rfl ?_
  refine ev_callVH (n := 2) (As := [iv v, iv p]) (st := [iv 0, rr G 9 0 0]) mfX11_duty mlL_86 dL_duty_5 dm0_0 en0_0 rfl rfl rfl (by decide) (by decide) (by decide) (Nat.le_of_ble_eq_true rfl) (s_duty h hvi hp) (fun r M1 o => ?_) (fun E M1 o => ?_)
  · obtain ⟨v, rfl, nx⟩ := o
    refine ev_i2l dL_duty_8 ?_
    refine ev_last (w := (J v).toInt) (J64 v) dL_duty_9 ?_
    refine ev_goto 21 dL_duty_10 (by decide) ?_
    refine ev_iconst dL_duty_21 ?_
    refine ev_sub [] rfl ?_
    exact ev_iret dL_duty_22 (by decide) rfl ⟨0, v, rfl, ⟨by decide, by decide⟩, fun _ => wr_at _ _ _ _ _ _, nx _ Ex9.wr⟩
  · rcases o with ⟨rfl, nx⟩ | ⟨o2, rfl, nx⟩ | ⟨o3, rfl, nx⟩
    · exact ⟨[], (0, 10, 13, 13), [(0, 10, 17, 39)], rfl, fa0, ⟨by decide, by decide⟩, by decide, ⟨eIX, clL_13, caeIX⟩, hd_tail dL_duty_13 (by decide) dL_duty_15 dL_duty_16 (by decide) rfl ⟨1, 0, rfl, ⟨by decide, by decide⟩, fun z => absurd z (by decide), nx _ Ex9.rf⟩⟩
    · exact ⟨[(0, 10, 13, 13)], (0, 10, 17, 39), [], rfl, (fa1 ⟨by decide, eIX, clL_13, ncnsEeIX hN⟩ fa0), ⟨by decide, by decide⟩, by decide, ⟨nsE, clL_39, cansE⟩, hd_tail dL_duty_17 (by decide) dL_duty_19 dL_duty_20 (by decide) rfl ⟨2, 0, rfl, ⟨by decide, by decide⟩, fun z => absurd z (by decide), nx _ Ex9.rf⟩⟩
    · exact absurd o3 (by decide)
theorem w_vehicle {G : GT} {M : Mem} (hN : NC G) (h : Rel M) {v w : Int} (hvi : I32 v) (hwi : I32 w) : CallH G 10 4 zL_vehicle [rr G 0 0 0, iv v, iv w, rr G 9 0 0] M (WrI G 4 zX12_vehicle [rr G 8 0 0, iv v, iv w]) noX := by
  refine callH_intro (lv := [(0, rr G 0 0 0), (1, iv v), (2, iv w), (3, rr G 9 0 0)]) (by decide) (Nat.le_of_ble_eq_true rfl) rfl ?_
  refine ev_aload_n (j := 3) dL_vehicle_0 rfl rfl ?_
  refine ev_iconst dL_vehicle_1 ?_
  refine ev_aload_n (j := 0) dL_vehicle_2 rfl rfl ?_
  refine ev_iload_n (j := 1) dL_vehicle_3 rfl rfl ?_
  refine ev_iload_n (j := 2) dL_vehicle_4 rfl rfl ?_
  refine ev_callVH (n := 2) (As := [iv v, iv w]) (st := [iv 0, rr G 9 0 0]) mfX11_vehicle mlL_89 dL_vehicle_5 dm0_0 en0_0 rfl rfl rfl (by decide) (by decide) (by decide) (Nat.le_of_ble_eq_true rfl) (s_vehicle h hvi hwi) (fun r M1 o => ?_) (fun E M1 o => ?_)
  · obtain ⟨v, rfl, nx⟩ := o
    refine ev_i2l dL_vehicle_8 ?_
    refine ev_last (w := (J v).toInt) (J64 v) dL_vehicle_9 ?_
    refine ev_goto 21 dL_vehicle_10 (by decide) ?_
    refine ev_iconst dL_vehicle_21 ?_
    refine ev_sub [] rfl ?_
    exact ev_iret dL_vehicle_22 (by decide) rfl ⟨0, v, rfl, ⟨by decide, by decide⟩, fun _ => wr_at _ _ _ _ _ _, nx _ Ex9.wr⟩
  · rcases o with ⟨rfl, nx⟩ | ⟨o2, rfl, nx⟩ | ⟨o3, rfl, nx⟩
    · exact ⟨[], (0, 10, 13, 13), [(0, 10, 17, 15)], rfl, fa0, ⟨by decide, by decide⟩, by decide, ⟨eIX, clL_13, caeIX⟩, hd_tail dL_vehicle_13 (by decide) dL_vehicle_15 dL_vehicle_16 (by decide) rfl ⟨1, 0, rfl, ⟨by decide, by decide⟩, fun z => absurd z (by decide), nx _ Ex9.rf⟩⟩
    · exact ⟨[(0, 10, 13, 13)], (0, 10, 17, 15), [], rfl, (fa1 ⟨by decide, eIX, clL_13, nceIAeIX hN⟩ fa0), ⟨by decide, by decide⟩, by decide, ⟨eIA, clL_15, caeIA⟩, hd_tail dL_vehicle_17 (by decide) dL_vehicle_19 dL_vehicle_20 (by decide) rfl ⟨2, 0, rfl, ⟨by decide, by decide⟩, fun z => absurd z (by decide), nx _ Ex9.rf⟩⟩
    · exact absurd o3 (by decide)
theorem w_leaving {G : GT} {M : Mem} (hN : NC G) (h : Rel M) {a p : Int} (ha : I32 a) (hp : I32 p) : CallH G 10 4 zL_leaving [rr G 0 0 0, iv a, iv p, rr G 9 0 0] M (WrI G 1 zX12_leaving [rr G 8 0 0, iv a, iv p]) noX := by
  refine callH_intro (lv := [(0, rr G 0 0 0), (1, iv a), (2, iv p), (3, rr G 9 0 0)]) (by decide) (Nat.le_of_ble_eq_true rfl) rfl ?_
  refine ev_aload_n (j := 3) dL_leaving_0 rfl rfl ?_
  refine ev_iconst dL_leaving_1 ?_
  refine ev_aload_n (j := 0) dL_leaving_2 rfl rfl ?_
  refine ev_iload_n (j := 1) dL_leaving_3 rfl rfl ?_
  refine ev_iload_n (j := 2) dL_leaving_4 rfl rfl ?_
  refine ev_callVH (n := 2) (As := [iv a, iv p]) (st := [iv 0, rr G 9 0 0]) mfX11_leaving mlL_92 dL_leaving_5 dm0_0 en0_0 rfl rfl rfl (by decide) (by decide) (by decide) (Nat.le_of_ble_eq_true rfl) (s_leaving h ha hp) (fun r M1 o => ?_) (fun E M1 o => ?_)
  · obtain ⟨v, rfl, nx⟩ := o
    refine ev_i2l dL_leaving_8 ?_
    refine ev_last (w := (J v).toInt) (J64 v) dL_leaving_9 ?_
    refine ev_goto 21 dL_leaving_10 (by decide) ?_
    refine ev_iconst dL_leaving_21 ?_
    refine ev_sub [] rfl ?_
    exact ev_iret dL_leaving_22 (by decide) rfl ⟨0, v, rfl, ⟨by decide, by decide⟩, fun _ => wr_at _ _ _ _ _ _, nx _ Ex9.wr⟩
  · rcases o with ⟨rfl, nx⟩ | ⟨o2, rfl, nx⟩ | ⟨o3, rfl, nx⟩
    · exact ⟨[], (0, 10, 13, 13), [(0, 10, 17, 39)], rfl, fa0, ⟨by decide, by decide⟩, by decide, ⟨eIX, clL_13, caeIX⟩, hd_tail dL_leaving_13 (by decide) dL_leaving_15 dL_leaving_16 (by decide) rfl ⟨1, 0, rfl, ⟨by decide, by decide⟩, fun z => absurd z (by decide), nx _ Ex9.rf⟩⟩
    · exact ⟨[(0, 10, 13, 13)], (0, 10, 17, 39), [], rfl, (fa1 ⟨by decide, eIX, clL_13, ncnsEeIX hN⟩ fa0), ⟨by decide, by decide⟩, by decide, ⟨nsE, clL_39, cansE⟩, hd_tail dL_leaving_17 (by decide) dL_leaving_19 dL_leaving_20 (by decide) rfl ⟨2, 0, rfl, ⟨by decide, by decide⟩, fun z => absurd z (by decide), nx _ Ex9.rf⟩⟩
    · exact absurd o3 (by decide)
theorem w_block {G : GT} {M : Mem} (hN : NC G) (h : Rel M) {a b c : Int} (ha : I32 a) (hb : I32 b) (hc : I32 c) : CallH G 10 4 zL_block [rr G 0 0 0, iv a, iv b, iv c, rr G 9 0 0] M (WrI G 2 zX12_block [rr G 8 0 0, iv a, iv b, iv c]) noX := by
  refine callH_intro (lv := [(0, rr G 0 0 0), (1, iv a), (2, iv b), (3, iv c), (4, rr G 9 0 0)]) (by decide) (Nat.le_of_ble_eq_true rfl) rfl ?_
  refine ev_aload (j := 4) dL_block_0 rfl ?_
  refine ev_iconst dL_block_2 ?_
  refine ev_aload_n (j := 0) dL_block_3 rfl rfl ?_
  refine ev_iload_n (j := 1) dL_block_4 rfl rfl ?_
  refine ev_iload_n (j := 2) dL_block_5 rfl rfl ?_
  refine ev_iload_n (j := 3) dL_block_6 rfl rfl ?_
  refine ev_callVH (n := 3) (As := [iv a, iv b, iv c]) (st := [iv 0, rr G 9 0 0]) mfX11_block mlL_95 dL_block_7 dm0_0 en0_0 rfl rfl rfl (by decide) (by decide) (by decide) (Nat.le_of_ble_eq_true rfl) (s_block h ha hb hc) (fun r M1 o => ?_) (fun E M1 o => ?_)
  · obtain ⟨v, rfl, nx⟩ := o
    refine ev_i2l dL_block_10 ?_
    refine ev_last (w := (J v).toInt) (J64 v) dL_block_11 ?_
    refine ev_goto 27 dL_block_12 (by decide) ?_
    refine ev_iconst dL_block_27 ?_
    refine ev_sub [] rfl ?_
    exact ev_iret dL_block_28 (by decide) rfl ⟨0, v, rfl, ⟨by decide, by decide⟩, fun _ => wr_at _ _ _ _ _ _, nx _ Ex9.wr⟩
  · rcases o with ⟨rfl, nx⟩ | ⟨o2, rfl, nx⟩ | ⟨o3, rfl, nx⟩
    · exact ⟨[], (0, 12, 15, 13), [(0, 12, 19, 15), (0, 12, 23, 17)], rfl, fa0, ⟨by decide, by decide⟩, by decide, ⟨eIX, clL_13, caeIX⟩, hd_tail dL_block_15 (by decide) dL_block_17 dL_block_18 (by decide) rfl ⟨1, 0, rfl, ⟨by decide, by decide⟩, fun z => absurd z (by decide), nx _ Ex9.rf⟩⟩
    · exact ⟨[(0, 12, 15, 13)], (0, 12, 19, 15), [(0, 12, 23, 17)], rfl, (fa1 ⟨by decide, eIX, clL_13, nceIAeIX hN⟩ fa0), ⟨by decide, by decide⟩, by decide, ⟨eIA, clL_15, caeIA⟩, hd_tail dL_block_19 (by decide) dL_block_21 dL_block_22 (by decide) rfl ⟨2, 0, rfl, ⟨by decide, by decide⟩, fun z => absurd z (by decide), nx _ Ex9.rf⟩⟩
    · exact ⟨[(0, 12, 15, 13), (0, 12, 19, 15)], (0, 12, 23, 17), [], rfl, (fa1 ⟨by decide, eIX, clL_13, nceISeIX hN⟩ (fa1 ⟨by decide, eIA, clL_15, nceISeIA hN⟩ fa0)), ⟨by decide, by decide⟩, by decide, ⟨eIS, clL_17, caeIS⟩, hd_tail dL_block_23 (by decide) dL_block_25 dL_block_26 (by decide) rfl ⟨3, 0, rfl, ⟨by decide, by decide⟩, fun z => absurd z (by decide), nx _ Ex9.rf⟩⟩
theorem w_unblock {G : GT} {M : Mem} (hN : NC G) (h : Rel M) {b : Int} (hb : I32 b) : CallH G 10 4 zL_unblock [rr G 0 0 0, iv b, rr G 9 0 0] M (WrI G 2 zX12_unblock [rr G 8 0 0, iv b]) noX := by
  refine callH_intro (lv := [(0, rr G 0 0 0), (1, iv b), (2, rr G 9 0 0)]) (by decide) (Nat.le_of_ble_eq_true rfl) rfl ?_
  refine ev_aload_n (j := 2) dL_unblock_0 rfl rfl ?_
  refine ev_iconst dL_unblock_1 ?_
  refine ev_aload_n (j := 0) dL_unblock_2 rfl rfl ?_
  refine ev_iload_n (j := 1) dL_unblock_3 rfl rfl ?_
  refine ev_callVH (n := 1) (As := [iv b]) (st := [iv 0, rr G 9 0 0]) mfX11_unblock mlL_98 dL_unblock_4 dm0_0 en0_0 rfl rfl rfl (by decide) (by decide) (by decide) (Nat.le_of_ble_eq_true rfl) (s_unblock h hb) (fun r M1 o => ?_) (fun E M1 o => ?_)
  · obtain ⟨v, rfl, nx⟩ := o
    refine ev_i2l dL_unblock_7 ?_
    refine ev_last (w := (J v).toInt) (J64 v) dL_unblock_8 ?_
    refine ev_goto 15 dL_unblock_9 (by decide) ?_
    refine ev_iconst dL_unblock_15 ?_
    refine ev_sub [] rfl ?_
    exact ev_iret dL_unblock_16 (by decide) rfl ⟨0, v, rfl, ⟨by decide, by decide⟩, fun _ => wr_at _ _ _ _ _ _, nx _ Ex9.wr⟩
  · rcases o with ⟨rfl, nx⟩ | ⟨o2, rfl, nx⟩ | ⟨o3, rfl, nx⟩
    · exact ⟨[], (0, 9, 12, 13), [], rfl, fa0, ⟨by decide, by decide⟩, by decide, ⟨eIX, clL_13, caeIX⟩, hd_tailn dL_unblock_12 rfl (by decide) dL_unblock_13 dL_unblock_14 (by decide) rfl ⟨1, 0, rfl, ⟨by decide, by decide⟩, fun z => absurd z (by decide), nx _ Ex9.rf⟩⟩
    · exact absurd o2 (by decide)
    · exact absurd o3 (by decide)
theorem w_actual {G : GT} {M : Mem} (hN : NC G) (h : Rel M) {t s w : Int} (hti : I32 t) (hsi : I32 s) (hwi : I32 w) : CallH G 10 4 zL_actual [rr G 0 0 0, iv t, iv s, iv w, rr G 9 0 0] M (WrI G 5 zX12_actual [rr G 8 0 0, iv t, iv s, iv w]) noX := by
  refine callH_intro (lv := [(0, rr G 0 0 0), (1, iv t), (2, iv s), (3, iv w), (4, rr G 9 0 0)]) (by decide) (Nat.le_of_ble_eq_true rfl) rfl ?_
  refine ev_aload (j := 4) dL_actual_0 rfl ?_
  refine ev_iconst dL_actual_2 ?_
  refine ev_aload_n (j := 0) dL_actual_3 rfl rfl ?_
  refine ev_iload_n (j := 1) dL_actual_4 rfl rfl ?_
  refine ev_iload_n (j := 2) dL_actual_5 rfl rfl ?_
  refine ev_iload_n (j := 3) dL_actual_6 rfl rfl ?_
  refine ev_callVH (n := 3) (As := [iv t, iv s, iv w]) (st := [iv 0, rr G 9 0 0]) mfX11_actual mlL_101 dL_actual_7 dm0_0 en0_0 rfl rfl rfl (by decide) (by decide) (by decide) (Nat.le_of_ble_eq_true rfl) (s_actual h hti hsi hwi) (fun r M1 o => ?_) (fun E M1 o => ?_)
  · obtain ⟨v, rfl, nx⟩ := o
    refine ev_i2l dL_actual_10 ?_
    refine ev_last (w := (J v).toInt) (J64 v) dL_actual_11 ?_
    refine ev_goto 23 dL_actual_12 (by decide) ?_
    refine ev_iconst dL_actual_23 ?_
    refine ev_sub [] rfl ?_
    exact ev_iret dL_actual_24 (by decide) rfl ⟨0, v, rfl, ⟨by decide, by decide⟩, fun _ => wr_at _ _ _ _ _ _, nx _ Ex9.wr⟩
  · rcases o with ⟨rfl, nx⟩ | ⟨o2, rfl, nx⟩ | ⟨o3, rfl, nx⟩
    · exact ⟨[], (0, 12, 15, 13), [(0, 12, 19, 39)], rfl, fa0, ⟨by decide, by decide⟩, by decide, ⟨eIX, clL_13, caeIX⟩, hd_tail dL_actual_15 (by decide) dL_actual_17 dL_actual_18 (by decide) rfl ⟨1, 0, rfl, ⟨by decide, by decide⟩, fun z => absurd z (by decide), nx _ Ex9.rf⟩⟩
    · exact ⟨[(0, 12, 15, 13)], (0, 12, 19, 39), [], rfl, (fa1 ⟨by decide, eIX, clL_13, ncnsEeIX hN⟩ fa0), ⟨by decide, by decide⟩, by decide, ⟨nsE, clL_39, cansE⟩, hd_tail dL_actual_19 (by decide) dL_actual_21 dL_actual_22 (by decide) rfl ⟨2, 0, rfl, ⟨by decide, by decide⟩, fun z => absurd z (by decide), nx _ Ex9.rf⟩⟩
    · exact absurd o3 (by decide)
theorem w_delay {G : GT} {M : Mem} (hN : NC G) (h : Rel M) {t : Int} (hti : I32 t) : CallH G 10 4 zL_delay [rr G 0 0 0, iv t, rr G 9 0 0] M (WrI G 5 zX12_delay [rr G 8 0 0, iv t]) noX := by
  refine callH_intro (lv := [(0, rr G 0 0 0), (1, iv t), (2, rr G 9 0 0)]) (by decide) (Nat.le_of_ble_eq_true rfl) rfl ?_
  refine ev_aload_n (j := 2) dL_delay_0 rfl rfl ?_
  refine ev_iconst dL_delay_1 ?_
  refine ev_aload_n (j := 0) dL_delay_2 rfl rfl ?_
  refine ev_iload_n (j := 1) dL_delay_3 rfl rfl ?_
  refine ev_callVH (n := 1) (As := [iv t]) (st := [iv 0, rr G 9 0 0]) mfX11_delay mlL_104 dL_delay_4 dm0_0 en0_0 rfl rfl rfl (by decide) (by decide) (by decide) (Nat.le_of_ble_eq_true rfl) (s_delay h hti) (fun r M1 o => ?_) (fun E M1 o => ?_)
  · obtain ⟨v, rfl, nx⟩ := o
    refine ev_i2l dL_delay_7 ?_
    refine ev_last (w := (J v).toInt) (J64 v) dL_delay_8 ?_
    refine ev_goto 18 dL_delay_9 (by decide) ?_
    refine ev_iconst dL_delay_18 ?_
    refine ev_sub [] rfl ?_
    exact ev_iret dL_delay_19 (by decide) rfl ⟨0, v, rfl, ⟨by decide, by decide⟩, fun _ => wr_at _ _ _ _ _ _, nx _ Ex9.wr⟩
  · rcases o with ⟨rfl, nx⟩ | ⟨o2, rfl, nx⟩ | ⟨o3, rfl, nx⟩
    · exact ⟨[], (0, 9, 12, 13), [(0, 9, 15, 39)], rfl, fa0, ⟨by decide, by decide⟩, by decide, ⟨eIX, clL_13, caeIX⟩, hd_tailn dL_delay_12 rfl (by decide) dL_delay_13 dL_delay_14 (by decide) rfl ⟨1, 0, rfl, ⟨by decide, by decide⟩, fun z => absurd z (by decide), nx _ Ex9.rf⟩⟩
    · exact ⟨[(0, 9, 12, 13)], (0, 9, 15, 39), [], rfl, (fa1 ⟨by decide, eIX, clL_13, ncnsEeIX hN⟩ fa0), ⟨by decide, by decide⟩, by decide, ⟨nsE, clL_39, cansE⟩, hd_tailn dL_delay_15 rfl (by decide) dL_delay_16 dL_delay_17 (by decide) rfl ⟨2, 0, rfl, ⟨by decide, by decide⟩, fun z => absurd z (by decide), nx _ Ex9.rf⟩⟩
    · exact absurd o3 (by decide)
theorem w_run {G : GT} {M : Mem} (hN : NC G) (h : Rel M) {v : Int} (hvi : I32 v) : CallH G 10 4 zL_run [rr G 0 0 0, iv v, rr G 9 0 0] M (WrI G 6 zX12_run [rr G 8 0 0, iv v]) noX := by
  refine callH_intro (lv := [(0, rr G 0 0 0), (1, iv v), (2, rr G 9 0 0)]) (by decide) (Nat.le_of_ble_eq_true rfl) rfl ?_
  refine ev_aload_n (j := 2) dL_run_0 rfl rfl ?_
  refine ev_iconst dL_run_1 ?_
  refine ev_aload_n (j := 0) dL_run_2 rfl rfl ?_
  refine ev_iload_n (j := 1) dL_run_3 rfl rfl ?_
  refine ev_callVH (n := 1) (As := [iv v]) (st := [iv 0, rr G 9 0 0]) mfX11_run mlL_107 dL_run_4 dm0_0 en0_0 rfl rfl rfl (by decide) (by decide) (by decide) (Nat.le_of_ble_eq_true rfl) (s_run h hvi) (fun r M1 o => ?_) (fun E M1 o => ?_)
  · obtain ⟨v, rfl, nx⟩ := o
    refine ev_i2l dL_run_7 ?_
    refine ev_last (w := (J v).toInt) (J64 v) dL_run_8 ?_
    refine ev_goto 15 dL_run_9 (by decide) ?_
    refine ev_iconst dL_run_15 ?_
    refine ev_sub [] rfl ?_
    exact ev_iret dL_run_16 (by decide) rfl ⟨0, v, rfl, ⟨by decide, by decide⟩, fun _ => wr_at _ _ _ _ _ _, nx _ Ex9.wr⟩
  · rcases o with ⟨rfl, nx⟩ | ⟨o2, rfl, nx⟩ | ⟨o3, rfl, nx⟩
    · exact ⟨[], (0, 9, 12, 15), [], rfl, fa0, ⟨by decide, by decide⟩, by decide, ⟨eIA, clL_15, caeIA⟩, hd_tailn dL_run_12 rfl (by decide) dL_run_13 dL_run_14 (by decide) rfl ⟨1, 0, rfl, ⟨by decide, by decide⟩, fun z => absurd z (by decide), nx _ Ex9.rf⟩⟩
    · exact absurd o2 (by decide)
    · exact absurd o3 (by decide)
theorem w_actualBunches {G : GT} {M : Mem} (hN : NC G) (h : Rel M) {a s : Int} (ha : I32 a) (hs : I32 s) : CallH G 10 4 zL_actualBunches [rr G 0 0 0, iv a, iv s, rr G 9 0 0] M (WrI G 5 zX12_actualBunches [rr G 8 0 0, iv a, iv s]) noX := by
  refine callH_intro (lv := [(0, rr G 0 0 0), (1, iv a), (2, iv s), (3, rr G 9 0 0)]) (by decide) (Nat.le_of_ble_eq_true rfl) rfl ?_
  refine ev_aload_n (j := 3) dL_actualBunches_0 rfl rfl ?_
  refine ev_iconst dL_actualBunches_1 ?_
  refine ev_aload_n (j := 0) dL_actualBunches_2 rfl rfl ?_
  refine ev_iload_n (j := 1) dL_actualBunches_3 rfl rfl ?_
  refine ev_iload_n (j := 2) dL_actualBunches_4 rfl rfl ?_
  refine ev_callVH (n := 2) (As := [iv a, iv s]) (st := [iv 0, rr G 9 0 0]) mfX11_actualBunches mlL_110 dL_actualBunches_5 dm0_0 en0_0 rfl rfl rfl (by decide) (by decide) (by decide) (Nat.le_of_ble_eq_true rfl) (s_actualBunches h ha hs) (fun r M1 o => ?_) (fun E M1 o => ?_)
  · obtain ⟨v, rfl, nx⟩ := o
    refine ev_i2l dL_actualBunches_8 ?_
    refine ev_last (w := (J v).toInt) (J64 v) dL_actualBunches_9 ?_
    refine ev_goto 17 dL_actualBunches_10 (by decide) ?_
    refine ev_iconst dL_actualBunches_17 ?_
    refine ev_sub [] rfl ?_
    exact ev_iret dL_actualBunches_18 (by decide) rfl ⟨0, v, rfl, ⟨by decide, by decide⟩, fun _ => wr_at _ _ _ _ _ _, nx _ Ex9.wr⟩
  · rcases o with ⟨rfl, nx⟩ | ⟨o2, rfl, nx⟩ | ⟨o3, rfl, nx⟩
    · exact ⟨[], (0, 10, 13, 13), [], rfl, fa0, ⟨by decide, by decide⟩, by decide, ⟨eIX, clL_13, caeIX⟩, hd_tail dL_actualBunches_13 (by decide) dL_actualBunches_15 dL_actualBunches_16 (by decide) rfl ⟨1, 0, rfl, ⟨by decide, by decide⟩, fun z => absurd z (by decide), nx _ Ex9.rf⟩⟩
    · exact absurd o2 (by decide)
    · exact absurd o3 (by decide)
theorem w_meanDelay {G : GT} {M : Mem} (hN : NC G) (h : Rel M) : CallH G 10 4 zL_meanDelay [rr G 0 0 0, rr G 9 0 1] M (WrD G 6 zX12_meanDelay [rr G 8 0 0]) noX := by
  refine callH_intro (lv := [(0, rr G 0 0 0), (1, rr G 9 0 1)]) (by decide) (Nat.le_of_ble_eq_true rfl) rfl ?_
  refine ev_aload_n (j := 1) dL_meanDelay_0 rfl rfl ?_
  refine ev_iconst dL_meanDelay_1 ?_
  refine ev_aload_n (j := 0) dL_meanDelay_2 rfl rfl ?_
  refine ev_callVH (n := 0) (As := []) (st := [iv 0, rr G 9 0 1]) mfX11_meanDelay mlL_113 dL_meanDelay_3 dm0_0 en0_0 rfl rfl rfl (by decide) (by decide) (by decide) (Nat.le_of_ble_eq_true rfl) (s_meanDelay h) (fun r M1 o => ?_) (fun E M1 o => ?_)
  · obtain ⟨v, rfl, nx⟩ := o
    refine ev_dast dL_meanDelay_6 ?_
    refine ev_goto 13 dL_meanDelay_7 (by decide) ?_
    refine ev_iconst dL_meanDelay_13 ?_
    refine ev_sub [] rfl ?_
    exact ev_iret dL_meanDelay_14 (by decide) rfl ⟨0, v, rfl, ⟨by decide, by decide⟩, fun _ => wr_at _ _ _ _ _ _, nx _ Ex9.wr⟩
  · rcases o with ⟨rfl, nx⟩ | ⟨o2, rfl, nx⟩
    · exact ⟨[], (0, 7, 10, 60), [], rfl, fa0, ⟨by decide, by decide⟩, by decide, ⟨eAR, clL_60, caeAR⟩, hd_tailn dL_meanDelay_10 rfl (by decide) dL_meanDelay_11 dL_meanDelay_12 (by decide) rfl ⟨1, FP.dconst0, rfl, ⟨by decide, by decide⟩, fun z => absurd z (by decide), nx _ Ex9.rf⟩⟩
    · exact absurd o2 (by decide)
theorem w_turnShort {G : GT} {M : Mem} (hN : NC G) (h : Rel M) {t s : Int} (ht : I32 t) (hs : I32 s) : CallH G 10 4 zL_turnShort [rr G 0 0 0, iv t, iv s, rr G 9 0 0] M (WrI G 3 zX12_turnShort [rr G 8 0 0, iv t, iv s]) noX := by
  refine callH_intro (lv := [(0, rr G 0 0 0), (1, iv t), (2, iv s), (3, rr G 9 0 0)]) (by decide) (Nat.le_of_ble_eq_true rfl) rfl ?_
  refine ev_aload_n (j := 3) dL_turnShort_0 rfl rfl ?_
  refine ev_iconst dL_turnShort_1 ?_
  refine ev_aload_n (j := 0) dL_turnShort_2 rfl rfl ?_
  refine ev_iload_n (j := 1) dL_turnShort_3 rfl rfl ?_
  refine ev_iload_n (j := 2) dL_turnShort_4 rfl rfl ?_
  refine ev_callVH (n := 2) (As := [iv t, iv s]) (st := [iv 0, rr G 9 0 0]) mfX11_turnShort mlL_117 dL_turnShort_5 dm0_0 en0_0 rfl rfl rfl (by decide) (by decide) (by decide) (Nat.le_of_ble_eq_true rfl) (s_turnShort h ht hs) (fun r M1 o => ?_) (fun E M1 o => ?_)
  · obtain ⟨v, rfl, nx⟩ := o
    refine ev_i2l dL_turnShort_8 ?_
    refine ev_last (w := (J v).toInt) (J64 v) dL_turnShort_9 ?_
    refine ev_goto 21 dL_turnShort_10 (by decide) ?_
    refine ev_iconst dL_turnShort_21 ?_
    refine ev_sub [] rfl ?_
    exact ev_iret dL_turnShort_22 (by decide) rfl ⟨0, v, rfl, ⟨by decide, by decide⟩, fun _ => wr_at _ _ _ _ _ _, nx _ Ex9.wr⟩
  · rcases o with ⟨rfl, nx⟩ | ⟨o2, rfl, nx⟩ | ⟨o3, rfl, nx⟩
    · exact ⟨[], (0, 10, 13, 13), [(0, 10, 17, 15)], rfl, fa0, ⟨by decide, by decide⟩, by decide, ⟨eIX, clL_13, caeIX⟩, hd_tail dL_turnShort_13 (by decide) dL_turnShort_15 dL_turnShort_16 (by decide) rfl ⟨1, 0, rfl, ⟨by decide, by decide⟩, fun z => absurd z (by decide), nx _ Ex9.rf⟩⟩
    · exact ⟨[(0, 10, 13, 13)], (0, 10, 17, 15), [], rfl, (fa1 ⟨by decide, eIX, clL_13, nceIAeIX hN⟩ fa0), ⟨by decide, by decide⟩, by decide, ⟨eIA, clL_15, caeIA⟩, hd_tail dL_turnShort_17 (by decide) dL_turnShort_19 dL_turnShort_20 (by decide) rfl ⟨2, 0, rfl, ⟨by decide, by decide⟩, fun z => absurd z (by decide), nx _ Ex9.rf⟩⟩
    · exact absurd o3 (by decide)
theorem w_startLate {G : GT} {M : Mem} (hN : NC G) (h : Rel M) {t s : Int} (ht : I32 t) (hs : I32 s) : CallH G 10 4 zL_startLate [rr G 0 0 0, iv t, iv s, rr G 9 0 0] M (WrI G 3 zX12_startLate [rr G 8 0 0, iv t, iv s]) noX := by
  refine callH_intro (lv := [(0, rr G 0 0 0), (1, iv t), (2, iv s), (3, rr G 9 0 0)]) (by decide) (Nat.le_of_ble_eq_true rfl) rfl ?_
  refine ev_aload_n (j := 3) dL_startLate_0 rfl rfl ?_
  refine ev_iconst dL_startLate_1 ?_
  refine ev_aload_n (j := 0) dL_startLate_2 rfl rfl ?_
  refine ev_iload_n (j := 1) dL_startLate_3 rfl rfl ?_
  refine ev_iload_n (j := 2) dL_startLate_4 rfl rfl ?_
  refine ev_callVH (n := 2) (As := [iv t, iv s]) (st := [iv 0, rr G 9 0 0]) mfX11_startLate mlL_120 dL_startLate_5 dm0_0 en0_0 rfl rfl rfl (by decide) (by decide) (by decide) (Nat.le_of_ble_eq_true rfl) (s_startLate h ht hs) (fun r M1 o => ?_) (fun E M1 o => ?_)
  · obtain ⟨v, rfl, nx⟩ := o
    refine ev_i2l dL_startLate_8 ?_
    refine ev_last (w := (J v).toInt) (J64 v) dL_startLate_9 ?_
    refine ev_goto 21 dL_startLate_10 (by decide) ?_
    refine ev_iconst dL_startLate_21 ?_
    refine ev_sub [] rfl ?_
    exact ev_iret dL_startLate_22 (by decide) rfl ⟨0, v, rfl, ⟨by decide, by decide⟩, fun _ => wr_at _ _ _ _ _ _, nx _ Ex9.wr⟩
  · rcases o with ⟨rfl, nx⟩ | ⟨o2, rfl, nx⟩ | ⟨o3, rfl, nx⟩
    · exact ⟨[], (0, 10, 13, 13), [(0, 10, 17, 15)], rfl, fa0, ⟨by decide, by decide⟩, by decide, ⟨eIX, clL_13, caeIX⟩, hd_tail dL_startLate_13 (by decide) dL_startLate_15 dL_startLate_16 (by decide) rfl ⟨1, 0, rfl, ⟨by decide, by decide⟩, fun z => absurd z (by decide), nx _ Ex9.rf⟩⟩
    · exact ⟨[(0, 10, 13, 13)], (0, 10, 17, 15), [], rfl, (fa1 ⟨by decide, eIX, clL_13, nceIAeIX hN⟩ fa0), ⟨by decide, by decide⟩, by decide, ⟨eIA, clL_15, caeIA⟩, hd_tail dL_startLate_17 (by decide) dL_startLate_19 dL_startLate_20 (by decide) rfl ⟨2, 0, rfl, ⟨by decide, by decide⟩, fun z => absurd z (by decide), nx _ Ex9.rf⟩⟩
    · exact absurd o3 (by decide)
theorem w_leastCost {G : GT} {M : Mem} (hN : NC G) (h : Rel M) {v : Int} (hvi : I32 v) : CallH G 10 4 zL_leastCost [rr G 0 0 0, iv v, rr G 9 0 0] M (WrI G 5 zX12_leastCost [rr G 8 0 0, iv v]) noX := by
  refine callH_intro (lv := [(0, rr G 0 0 0), (1, iv v), (2, rr G 9 0 0)]) (by decide) (Nat.le_of_ble_eq_true rfl) rfl ?_
  refine ev_aload_n (j := 2) dL_leastCost_0 rfl rfl ?_
  refine ev_iconst dL_leastCost_1 ?_
  refine ev_aload_n (j := 0) dL_leastCost_2 rfl rfl ?_
  refine ev_iload_n (j := 1) dL_leastCost_3 rfl rfl ?_
  refine ev_callVH (n := 1) (As := [iv v]) (st := [iv 0, rr G 9 0 0]) mfX11_leastCost mlL_123 dL_leastCost_4 dm0_0 en0_0 rfl rfl rfl (by decide) (by decide) (by decide) (Nat.le_of_ble_eq_true rfl) (s_leastCost h hvi) (fun r M1 o => ?_) (fun E M1 o => ?_)
  · obtain ⟨v, rfl, nx⟩ := o
    refine ev_i2l dL_leastCost_7 ?_
    refine ev_last (w := (J v).toInt) (J64 v) dL_leastCost_8 ?_
    refine ev_goto 15 dL_leastCost_9 (by decide) ?_
    refine ev_iconst dL_leastCost_15 ?_
    refine ev_sub [] rfl ?_
    exact ev_iret dL_leastCost_16 (by decide) rfl ⟨0, v, rfl, ⟨by decide, by decide⟩, fun _ => wr_at _ _ _ _ _ _, nx _ Ex9.wr⟩
  · rcases o with ⟨rfl, nx⟩ | ⟨o2, rfl, nx⟩ | ⟨o3, rfl, nx⟩
    · exact ⟨[], (0, 9, 12, 15), [], rfl, fa0, ⟨by decide, by decide⟩, by decide, ⟨eIA, clL_15, caeIA⟩, hd_tailn dL_leastCost_12 rfl (by decide) dL_leastCost_13 dL_leastCost_14 (by decide) rfl ⟨1, 0, rfl, ⟨by decide, by decide⟩, fun z => absurd z (by decide), nx _ Ex9.rf⟩⟩
    · exact absurd o2 (by decide)
    · exact absurd o3 (by decide)
theorem w_nextTrip {G : GT} {M : Mem} (hN : NC G) (h : Rel M) {t : Int} (hti : I32 t) : CallH G 10 4 zL_nextTrip [rr G 0 0 0, iv t, rr G 9 0 0] M (WrI G 3 zX12_nextTrip [rr G 8 0 0, iv t]) noX := by
  refine callH_intro (lv := [(0, rr G 0 0 0), (1, iv t), (2, rr G 9 0 0)]) (by decide) (Nat.le_of_ble_eq_true rfl) rfl ?_
  refine ev_aload_n (j := 2) dL_nextTrip_0 rfl rfl ?_
  refine ev_iconst dL_nextTrip_1 ?_
  refine ev_aload_n (j := 0) dL_nextTrip_2 rfl rfl ?_
  refine ev_iload_n (j := 1) dL_nextTrip_3 rfl rfl ?_
  refine ev_callVH (n := 1) (As := [iv t]) (st := [iv 0, rr G 9 0 0]) mfX11_nextTrip mlL_126 dL_nextTrip_4 dm0_0 en0_0 rfl rfl rfl (by decide) (by decide) (by decide) (Nat.le_of_ble_eq_true rfl) (s_nextTrip h hti) (fun r M1 o => ?_) (fun E M1 o => ?_)
  · obtain ⟨v, rfl, nx⟩ := o
    refine ev_i2l dL_nextTrip_7 ?_
    refine ev_last (w := (J v).toInt) (J64 v) dL_nextTrip_8 ?_
    refine ev_goto 18 dL_nextTrip_9 (by decide) ?_
    refine ev_iconst dL_nextTrip_18 ?_
    refine ev_sub [] rfl ?_
    exact ev_iret dL_nextTrip_19 (by decide) rfl ⟨0, v, rfl, ⟨by decide, by decide⟩, fun _ => wr_at _ _ _ _ _ _, nx _ Ex9.wr⟩
  · rcases o with ⟨rfl, nx⟩ | ⟨o2, rfl, nx⟩ | ⟨o3, rfl, nx⟩
    · exact ⟨[], (0, 9, 12, 13), [(0, 9, 15, 39)], rfl, fa0, ⟨by decide, by decide⟩, by decide, ⟨eIX, clL_13, caeIX⟩, hd_tailn dL_nextTrip_12 rfl (by decide) dL_nextTrip_13 dL_nextTrip_14 (by decide) rfl ⟨1, 0, rfl, ⟨by decide, by decide⟩, fun z => absurd z (by decide), nx _ Ex9.rf⟩⟩
    · exact ⟨[(0, 9, 12, 13)], (0, 9, 15, 39), [], rfl, (fa1 ⟨by decide, eIX, clL_13, ncnsEeIX hN⟩ fa0), ⟨by decide, by decide⟩, by decide, ⟨nsE, clL_39, cansE⟩, hd_tailn dL_nextTrip_15 rfl (by decide) dL_nextTrip_16 dL_nextTrip_17 (by decide) rfl ⟨2, 0, rfl, ⟨by decide, by decide⟩, fun z => absurd z (by decide), nx _ Ex9.rf⟩⟩
    · exact absurd o3 (by decide)
theorem w_append {G : GT} {M : Mem} (hN : NC G) (h : Rel M) {c : Int} (hc : 0 ≤ c ∧ c ≤ 65535) (hnar : vp_nar .char (J c) = J c) : CallH G 10 4 zL_append [rr G 0 0 0, iv c] M (WrV G 0 zX12_append [rr G 8 0 0, iv c]) noX := by
  refine callH_intro (lv := [(0, rr G 0 0 0), (1, iv c)]) (by decide) (Nat.le_of_ble_eq_true rfl) rfl ?_
  refine ev_aload_n (j := 0) dL_append_0 rfl rfl ?_
  refine ev_iload_n (j := 1) dL_append_1 rfl rfl ?_
  refine ev_callVH (n := 1) (As := [iv c]) (st := []) mfX11_append mlL_129 dL_append_2 dm0_0 en0_0 rfl rfl rfl (by decide) (by decide) (by decide) (Nat.le_of_ble_eq_true rfl) (s_append h hc hnar) (fun r M1 o => ?_) (fun E M1 o => ?_)
  · obtain ⟨rfl, nx⟩ := o
    refine ev_goto 11 dL_append_5 (by decide) ?_
    refine ev_iconst dL_append_11 ?_
    refine ev_sub [] rfl ?_
    exact ev_iret dL_append_12 (by decide) rfl ⟨0, rfl, ⟨by decide, by decide⟩, nx _ Ex9.rf⟩
  · obtain ⟨rfl, nx⟩ := o
    exact ⟨[], (0, 5, 8, 17), [], rfl, fa0, ⟨by decide, by decide⟩, by decide, ⟨eIS, clL_17, caeIS⟩, hd_tailn dL_append_8 rfl (by decide) dL_append_9 dL_append_10 (by decide) rfl ⟨1, rfl, ⟨by decide, by decide⟩, nx _ Ex9.rf⟩⟩
theorem w_readTrips {G : GT} {M : Mem} (hN : NC G) (h : Rel M) : CallH G 10 4 zL_readTrips [rr G 0 0 0, rr G 9 0 0] M (WrI G 4 zX12_readTrips [rr G 8 0 0]) noX := by
  refine callH_intro (lv := [(0, rr G 0 0 0), (1, rr G 9 0 0)]) (by decide) (Nat.le_of_ble_eq_true rfl) rfl ?_
  refine ev_aload_n (j := 1) dL_readTrips_0 rfl rfl ?_
  refine ev_iconst dL_readTrips_1 ?_
  refine ev_aload_n (j := 0) dL_readTrips_2 rfl rfl ?_
  refine ev_callVH (n := 0) (As := []) (st := [iv 0, rr G 9 0 0]) mfX11_readTrips mlL_133 dL_readTrips_3 dm0_0 en0_0 rfl rfl rfl (by decide) (by decide) (by decide) (Nat.le_of_ble_eq_true rfl) (s_readTrips h) (fun r M1 o => ?_) (fun E M1 o => ?_)
  · obtain ⟨v, rfl, nx⟩ := o
    refine ev_i2l dL_readTrips_6 ?_
    refine ev_last (w := (J v).toInt) (J64 v) dL_readTrips_7 ?_
    refine ev_goto 17 dL_readTrips_8 (by decide) ?_
    refine ev_iconst dL_readTrips_17 ?_
    refine ev_sub [] rfl ?_
    exact ev_iret dL_readTrips_18 (by decide) rfl ⟨0, v, rfl, ⟨by decide, by decide⟩, fun _ => wr_at _ _ _ _ _ _, nx _ Ex9.wr⟩
  · rcases o with ⟨rfl, nx⟩ | ⟨o2, rfl, nx⟩ | ⟨o3, rfl, nx⟩
    · exact ⟨[], (0, 8, 11, 15), [(0, 8, 14, 17)], rfl, fa0, ⟨by decide, by decide⟩, by decide, ⟨eIA, clL_15, caeIA⟩, hd_tailn dL_readTrips_11 rfl (by decide) dL_readTrips_12 dL_readTrips_13 (by decide) rfl ⟨1, 0, rfl, ⟨by decide, by decide⟩, fun z => absurd z (by decide), nx _ Ex9.rf⟩⟩
    · exact ⟨[(0, 8, 11, 15)], (0, 8, 14, 17), [], rfl, (fa1 ⟨by decide, eIA, clL_15, nceISeIA hN⟩ fa0), ⟨by decide, by decide⟩, by decide, ⟨eIS, clL_17, caeIS⟩, hd_tailn dL_readTrips_14 rfl (by decide) dL_readTrips_15 dL_readTrips_16 (by decide) rfl ⟨2, 0, rfl, ⟨by decide, by decide⟩, fun z => absurd z (by decide), nx _ Ex9.rf⟩⟩
    · exact absurd o3 (by decide)
theorem w_undo {G : GT} {M : Mem} (hN : NC G) (h : Rel M) : CallH G 10 4 zL_undo [rr G 0 0 0, rr G 9 0 0] M (WrI G 0 zX12_undo [rr G 8 0 0]) noX := by
  refine callH_intro (lv := [(0, rr G 0 0 0), (1, rr G 9 0 0)]) (by decide) (Nat.le_of_ble_eq_true rfl) rfl ?_
  refine ev_aload_n (j := 1) dL_undo_0 rfl rfl ?_
  refine ev_iconst dL_undo_1 ?_
  refine ev_aload_n (j := 0) dL_undo_2 rfl rfl ?_
  refine ev_callVH (n := 0) (As := []) (st := [iv 0, rr G 9 0 0]) mfX11_undo mlL_136 dL_undo_3 dm0_0 en0_0 rfl rfl rfl (by decide) (by decide) (by decide) (Nat.le_of_ble_eq_true rfl) (s_undo h) (fun r M1 o => ?_) (fun E M1 o => ?_)
  · obtain ⟨v, rfl, nx⟩ := o
    refine ev_i2l dL_undo_6 ?_
    refine ev_last (w := (J v).toInt) (J64 v) dL_undo_7 ?_
    refine ev_goto 14 dL_undo_8 (by decide) ?_
    refine ev_iconst dL_undo_14 ?_
    refine ev_sub [] rfl ?_
    exact ev_iret dL_undo_15 (by decide) rfl ⟨0, v, rfl, ⟨by decide, by decide⟩, fun _ => wr_at _ _ _ _ _ _, nx _ Ex9.wr⟩
  · rcases o with ⟨rfl, nx⟩ | ⟨o2, rfl, nx⟩ | ⟨o3, rfl, nx⟩
    · exact ⟨[], (0, 8, 11, 17), [], rfl, fa0, ⟨by decide, by decide⟩, by decide, ⟨eIS, clL_17, caeIS⟩, hd_tailn dL_undo_11 rfl (by decide) dL_undo_12 dL_undo_13 (by decide) rfl ⟨1, 0, rfl, ⟨by decide, by decide⟩, fun z => absurd z (by decide), nx _ Ex9.rf⟩⟩
    · exact absurd o2 (by decide)
    · exact absurd o3 (by decide)
theorem w_restore {G : GT} {M : Mem} (hN : NC G) (h : Rel M) : CallH G 10 4 zL_restore [rr G 0 0 0] M (WrV G 1 zX12_restore [rr G 8 0 0]) noX := by
  refine callH_intro (lv := [(0, rr G 0 0 0)]) (by decide) (Nat.le_of_ble_eq_true rfl) rfl ?_
  refine ev_aload_n (j := 0) dL_restore_0 rfl rfl ?_
  refine ev_callVH (n := 0) (As := []) (st := []) mfX11_restore mlL_139 dL_restore_1 dm0_0 en0_0 rfl rfl rfl (by decide) (by decide) (by decide) (Nat.le_of_ble_eq_true rfl) (s_restore h) (fun r M1 o => ?_) (fun E M1 o => ?_)
  · obtain ⟨rfl, nx⟩ := o
    refine ev_goto 10 dL_restore_4 (by decide) ?_
    refine ev_iconst dL_restore_10 ?_
    refine ev_sub [] rfl ?_
    exact ev_iret dL_restore_11 (by decide) rfl ⟨0, rfl, ⟨by decide, by decide⟩, nx _ Ex9.rf⟩
  · obtain ⟨rfl, nx⟩ := o
    exact ⟨[], (0, 4, 7, 17), [], rfl, fa0, ⟨by decide, by decide⟩, by decide, ⟨eIS, clL_17, caeIS⟩, hd_tailn dL_restore_7 rfl (by decide) dL_restore_8 dL_restore_9 (by decide) rfl ⟨1, rfl, ⟨by decide, by decide⟩, nx _ Ex9.rf⟩⟩
