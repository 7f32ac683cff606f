/-! blocks of TramLinesModel (by program) -/
def eX12_active (G : GT) (K : List Value → Mem → Prop) (X : String → Mem → Prop) (pc : Nat) (lv : List (Nat × Value)) (st : List Value) (M : Mem) : Prop := Ex G zX12_active 1 0 K X 0 pc lv st M
set_option maxRecDepth 20000 in
set_option maxHeartbeats 4000000 in
theorem bX12_active {G : GT} {K : List Value → Mem → Prop} {X : String → Mem → Prop} {M : Mem} (h : eX12_active G K X 4 [(0, rr G 8 0 0), (1, iv 0), (2, iv 0)] [] M) : Call G 1 0 zX12_active [rr G 8 0 0] M K X := by
  refine call_intro (lv := [(0, rr G 8 0 0)]) (by decide) rfl (Nat.le_of_ble_eq_true rfl) rfl ?_
  refine ev_iconst dX12_active_0 ?_
  refine ev_istore_n dX12_active_1 rfl (by decide) rfl ?_
  refine ev_iconst dX12_active_2 ?_
  refine ev_istore_n dX12_active_3 rfl (by decide) rfl ?_
  exact ev_sub [2, 1, 0] rfl h
set_option maxRecDepth 20000 in
set_option maxHeartbeats 4000000 in
theorem bX12_active_4 {G : GT} {K : List Value → Mem → Prop} {X : String → Mem → Prop} {M : Mem} {v1 v2 : Int} (h : I32 v2 ∧ I32 (M 8 0 1 37) ∧ ((¬ v2 < (M 8 0 1 37) → K [iv v1] M) ∧ (v2 < (M 8 0 1 37) → Call G 0 0 zX12_isActive [rr G 8 0 0, iv v2] M (kI (fun x11 M9 => I32 x11 ∧ ((x11 = 0 → eX12_active G K X 4 [(0, rr G 8 0 0), (1, iv (v1 + 0)), (2, iv (v2 + 1))] [] M9) ∧ (¬ x11 = 0 → eX12_active G K X 4 [(0, rr G 8 0 0), (1, iv (v1 + 1)), (2, iv (v2 + 1))] [] M9)))) noX))) : eX12_active G K X 4 [(0, rr G 8 0 0), (1, iv v1), (2, iv v2)] [] M := by
  show Ex G zX12_active 1 0 K X 0 4 [(0, rr G 8 0 0), (1, iv v1), (2, iv v2)] [] M
  refine ev_iload_n (j := 2) dX12_active_4 rfl rfl ?_
  refine ev_aload_n (j := 0) dX12_active_5 rfl rfl ?_
  refine ev_get frX12_7 dX12_active_6 dm8_0 en8_0 rfl ?_
  refine ev_bipush dX12_active_9 (by decide) ?_
  refine ev_iald dX12_active_11 dm8_1 ar8_1 (by decide) (by decide) (by decide) ?_
  obtain ⟨s1, s2, h3⟩ := h
  obtain ⟨h4, h5⟩ := h3
  refine ev_icmp_ge 37 dX12_active_12 (by decide) s1 s2 (fun c6 => ?_) (fun c6 => ?_)
  · have h7 := h4 c6
    refine ev_iload_n (j := 1) dX12_active_37 rfl rfl ?_
    exact ev_iret dX12_active_38 (by decide) rfl h7
  · have h8 := h5 c6
    refine ev_iload_n (j := 1) dX12_active_15 rfl rfl ?_
    refine ev_aload_n (j := 0) dX12_active_16 rfl rfl ?_
    refine ev_iload_n (j := 2) dX12_active_17 rfl rfl ?_
    refine ev_callVI (As := [iv v2]) (st := [iv v1]) mfX12_isActive mlX12_149 dX12_active_18 rfl dm8_0 en8_0 rfl rfl rfl (by decide) (by decide) (by decide) (Nat.le_of_ble_eq_true rfl) (fun _ _ z => z.elim) h8 (fun x11 M9 h10 => ?_)
    obtain ⟨s12, h13⟩ := h10
    obtain ⟨h14, h15⟩ := h13
    refine ev_if_eq 28 dX12_active_21 (by decide) s12 (fun c16 => ?_) (fun c16 => ?_)
    · have h17 := h14 c16
      refine ev_iconst dX12_active_28 ?_
      refine ev_iadd dX12_active_29 ?_
      refine ev_istore_n dX12_active_30 rfl (by decide) rfl ?_
      refine ev_iinc (j := 2) dX12_active_31 rfl (by decide) rfl ?_
      refine ev_goto 4 dX12_active_34 (by decide) ?_
      exact ev_sub [2, 1, 0] rfl h17
    · have h18 := h15 c16
      refine ev_iconst dX12_active_24 ?_
      refine ev_goto 29 dX12_active_25 (by decide) ?_
      refine ev_iadd dX12_active_29 ?_
      refine ev_istore_n dX12_active_30 rfl (by decide) rfl ?_
      refine ev_iinc (j := 2) dX12_active_31 rfl (by decide) rfl ?_
      refine ev_goto 4 dX12_active_34 (by decide) ?_
      exact ev_sub [2, 1, 0] rfl h18
def eX12_actual (G : GT) (K : List Value → Mem → Prop) (X : String → Mem → Prop) (pc : Nat) (lv : List (Nat × Value)) (st : List Value) (M : Mem) : Prop := Ex G zX12_actual 5 0 K X 0 pc lv st M
set_option maxRecDepth 20000 in
set_option maxHeartbeats 4000000 in
theorem bX12_actual {G : GT} {K : List Value → Mem → Prop} {X : String → Mem → Prop} {M : Mem} {v1 v2 v3 : Int} (h : Call G 1 0 zX12_isTrip [rr G 8 0 0, iv v1] M (kI (fun x3 M1 => I32 x3 ∧ ((x3 = 0 → K [iv 0] (wr M1 8 0 0 7 1)) ∧ (¬ x3 = 0 → Call G 1 0 zX12_isOnWay [rr G 8 0 0, iv v1, iv v2] M1 (kI (fun x13 M11 => I32 x13 ∧ ((x13 = 0 → K [iv 0] (wr M11 8 0 0 7 2)) ∧ (¬ x13 = 0 → I32 v3 ∧ ((v3 = 0 → Call G 0 0 zX12_first [rr G 8 0 0, iv v1] M11 (kI (fun x29 M27 => I32 v2 ∧ I32 x29 ∧ ((v2 = x29 → K [iv 0] (wr M27 8 0 0 7 2)) ∧ (¬ v2 = x29 → Call G 4 0 zX12_runs [rr G 8 0 0] (wr M27 8 0 0 7 0) (kV (fun M38 => 0 ≤ (12 * v1) + v2 ∧ (12 * v1) + v2 < 360 ∧ I32 (M38 8 0 12 ((12 * v1) + v2)) ∧ ((¬ (M38 8 0 12 ((12 * v1) + v2)) < 0 → K [iv (M38 8 0 12 ((12 * v1) + v2))] M38) ∧ ((M38 8 0 12 ((12 * v1) + v2)) < 0 → Call G 0 0 zX12_fails [rr G 8 0 0, iv 2] M38 (kI (fun x53 M51 => K [iv x53] M51)) noX)))) noX)))) noX) ∧ (¬ v3 = 0 → Call G 0 0 zX12_last [rr G 8 0 0, iv v1] M11 (kI (fun x57 M55 => I32 v2 ∧ I32 x57 ∧ ((v2 = x57 → K [iv 0] (wr M55 8 0 0 7 2)) ∧ (¬ v2 = x57 → Call G 4 0 zX12_runs [rr G 8 0 0] (wr M55 8 0 0 7 0) (kV (fun M66 => 0 ≤ (12 * v1) + v2 ∧ (12 * v1) + v2 < 360 ∧ I32 (M66 8 0 13 ((12 * v1) + v2)) ∧ ((¬ (M66 8 0 13 ((12 * v1) + v2)) < 0 → K [iv (M66 8 0 13 ((12 * v1) + v2))] M66) ∧ ((M66 8 0 13 ((12 * v1) + v2)) < 0 → Call G 0 0 zX12_fails [rr G 8 0 0, iv 2] M66 (kI (fun x81 M79 => K [iv x81] M79)) noX)))) noX)))) noX)))))) noX)))) noX) : Call G 5 0 zX12_actual [rr G 8 0 0, iv v1, iv v2, iv v3] M K X := by
  refine call_intro (lv := [(0, rr G 8 0 0), (1, iv v1), (2, iv v2), (3, iv v3)]) (by decide) rfl (Nat.le_of_ble_eq_true rfl) rfl ?_
  refine ev_aload_n (j := 0) dX12_actual_0 rfl rfl ?_
  refine ev_aload_n (j := 0) dX12_actual_1 rfl rfl ?_
  refine ev_iload_n (j := 1) dX12_actual_2 rfl rfl ?_
  refine ev_callVI (As := [iv v1]) (st := [rr G 8 0 0]) mfX12_isTrip mlX12_169 dX12_actual_3 rfl dm8_0 en8_0 rfl rfl rfl (by decide) (by decide) (by decide) (Nat.le_of_ble_eq_true rfl) (fun _ _ z => z.elim) h (fun x3 M1 h2 => ?_)
  obtain ⟨s4, h5⟩ := h2
  obtain ⟨h6, h7⟩ := h5
  refine ev_if_eq 47 dX12_actual_6 (by decide) s4 (fun c8 => ?_) (fun c8 => ?_)
  · have h9 := h6 c8
    refine ev_iconst dX12_actual_47 ?_
    refine ev_put fwX12_84 dX12_actual_48 dm8_0 en8_0 rfl rfl rfl (Nat.le_of_ble_eq_true rfl) ?_
    refine ev_aload_n (j := 0) dX12_actual_51 rfl rfl ?_
    refine ev_get frX12_84 dX12_actual_52 dm8_0 en8_0 rfl ?_
    refine ev_topI (b := 1) rfl ?_
    refine ev_if_le 60 dX12_actual_55 (by decide) ⟨by decide, by decide⟩ (fun c9 => absurd c9 (by decide)) (fun _ => ?_)
    refine ev_iconst dX12_actual_58 ?_
    exact ev_iret dX12_actual_59 (by decide) rfl h9
  · have h10 := h7 c8
    refine ev_aload_n (j := 0) dX12_actual_9 rfl rfl ?_
    refine ev_iload_n (j := 1) dX12_actual_10 rfl rfl ?_
    refine ev_iload_n (j := 2) dX12_actual_11 rfl rfl ?_
    refine ev_callVI (As := [iv v1, iv v2]) (st := [rr G 8 0 0]) mfX12_isOnWay mlX12_182 dX12_actual_12 rfl dm8_0 en8_0 rfl rfl rfl (by decide) (by decide) (by decide) (Nat.le_of_ble_eq_true rfl) (fun _ _ z => z.elim) h10 (fun x13 M11 h12 => ?_)
    obtain ⟨s14, h15⟩ := h12
    obtain ⟨h16, h17⟩ := h15
    refine ev_if_eq 43 dX12_actual_15 (by decide) s14 (fun c18 => ?_) (fun c18 => ?_)
    · have h19 := h16 c18
      refine ev_iconst dX12_actual_43 ?_
      refine ev_goto 48 dX12_actual_44 (by decide) ?_
      refine ev_put fwX12_84 dX12_actual_48 dm8_0 en8_0 rfl rfl rfl (Nat.le_of_ble_eq_true rfl) ?_
      refine ev_aload_n (j := 0) dX12_actual_51 rfl rfl ?_
      refine ev_get frX12_84 dX12_actual_52 dm8_0 en8_0 rfl ?_
      refine ev_topI (b := 2) rfl ?_
      refine ev_if_le 60 dX12_actual_55 (by decide) ⟨by decide, by decide⟩ (fun c9 => absurd c9 (by decide)) (fun _ => ?_)
      refine ev_iconst dX12_actual_58 ?_
      exact ev_iret dX12_actual_59 (by decide) rfl h19
    · have h20 := h17 c18
      refine ev_iload_n (j := 2) dX12_actual_18 rfl rfl ?_
      refine ev_iload_n (j := 3) dX12_actual_19 rfl rfl ?_
      obtain ⟨s21, h22⟩ := h20
      obtain ⟨h23, h24⟩ := h22
      refine ev_if_eq 31 dX12_actual_20 (by decide) s21 (fun c25 => ?_) (fun c25 => ?_)
      · have h26 := h23 c25
        refine ev_aload_n (j := 0) dX12_actual_31 rfl rfl ?_
        refine ev_iload_n (j := 1) dX12_actual_32 rfl rfl ?_
        refine ev_callVI (As := [iv v1]) (st := [iv v2, rr G 8 0 0]) mfX12_first mlX12_113 dX12_actual_33 rfl dm8_0 en8_0 rfl rfl rfl (by decide) (by decide) (by decide) (Nat.le_of_ble_eq_true rfl) (fun _ _ z => z.elim) h26 (fun x29 M27 h28 => ?_)
        obtain ⟨s30, s31, h32⟩ := h28
        obtain ⟨h33, h34⟩ := h32
        refine ev_icmp_eq 43 dX12_actual_36 (by decide) s30 s31 (fun c35 => ?_) (fun c35 => ?_)
        · have h36 := h33 c35
          refine ev_iconst dX12_actual_43 ?_
          refine ev_goto 48 dX12_actual_44 (by decide) ?_
          refine ev_put fwX12_84 dX12_actual_48 dm8_0 en8_0 rfl rfl rfl (Nat.le_of_ble_eq_true rfl) ?_
          refine ev_aload_n (j := 0) dX12_actual_51 rfl rfl ?_
          refine ev_get frX12_84 dX12_actual_52 dm8_0 en8_0 rfl ?_
          refine ev_topI (b := 2) rfl ?_
          refine ev_if_le 60 dX12_actual_55 (by decide) ⟨by decide, by decide⟩ (fun c9 => absurd c9 (by decide)) (fun _ => ?_)
          refine ev_iconst dX12_actual_58 ?_
          exact ev_iret dX12_actual_59 (by decide) rfl h36
        · have h37 := h34 c35
          refine ev_iconst dX12_actual_39 ?_
          refine ev_goto 48 dX12_actual_40 (by decide) ?_
          refine ev_put fwX12_84 dX12_actual_48 dm8_0 en8_0 rfl rfl rfl (Nat.le_of_ble_eq_true rfl) ?_
          refine ev_aload_n (j := 0) dX12_actual_51 rfl rfl ?_
          refine ev_get frX12_84 dX12_actual_52 dm8_0 en8_0 rfl ?_
          refine ev_topI (b := 0) rfl ?_
          refine ev_if_le 60 dX12_actual_55 (by decide) ⟨by decide, by decide⟩ (fun _ => ?_) (fun c9 => absurd c9 (by decide))
          refine ev_aload_n (j := 0) dX12_actual_60 rfl rfl ?_
          refine ev_callVV (As := []) (st := []) mfX12_runs mlX12_274 dX12_actual_61 rfl dm8_0 en8_0 rfl rfl rfl (by decide) (by decide) (by decide) (Nat.le_of_ble_eq_true rfl) (fun _ _ z => z.elim) h37 (fun M38 h39 => ?_)
          refine ev_iload_n (j := 3) dX12_actual_64 rfl rfl ?_
          refine ev_if_eq 82 dX12_actual_65 (by decide) s21 (fun _ => ?_) (fun c9 => absurd c25 c9)
          refine ev_aload_n (j := 0) dX12_actual_82 rfl rfl ?_
          refine ev_get frX12_43 dX12_actual_83 dm8_0 en8_0 rfl ?_
          refine ev_bipush dX12_actual_86 (by decide) ?_
          refine ev_iload_n (j := 1) dX12_actual_88 rfl rfl ?_
          refine ev_imul dX12_actual_89 ?_
          refine ev_iload_n (j := 2) dX12_actual_90 rfl rfl ?_
          refine ev_iadd dX12_actual_91 ?_
          obtain ⟨s41, s42, h43⟩ := h39
          refine ev_iald dX12_actual_92 dm8_12 ar8_12 (by decide) s41 s42 ?_
          refine ev_istore dX12_actual_93 (by decide) rfl ?_
          refine ev_iload (j := 0) dX12_actual_95 rfl ?_
          obtain ⟨s44, h45⟩ := h43
          obtain ⟨h46, h47⟩ := h45
          refine ev_if_ge 108 dX12_actual_97 (by decide) s44 (fun c48 => ?_) (fun c48 => ?_)
          · have h49 := h46 c48
            refine ev_iload (j := 0) dX12_actual_108 rfl ?_
            exact ev_iret dX12_actual_110 (by decide) rfl h49
          · have h50 := h47 c48
            refine ev_aload_n (j := 1) dX12_actual_100 rfl rfl ?_
            refine ev_iconst dX12_actual_101 ?_
            refine ev_callVI (As := [iv 2]) (st := []) mfX12_fails mlX12_146 dX12_actual_102 rfl dm8_0 en8_0 rfl rfl rfl (by decide) (by decide) (by decide) (Nat.le_of_ble_eq_true rfl) (fun _ _ z => z.elim) h50 (fun x53 M51 h52 => ?_)
            refine ev_goto 110 dX12_actual_105 (by decide) ?_
            exact ev_iret dX12_actual_110 (by decide) rfl h52
      · have h54 := h24 c25
        refine ev_aload_n (j := 0) dX12_actual_23 rfl rfl ?_
        refine ev_iload_n (j := 1) dX12_actual_24 rfl rfl ?_
        refine ev_callVI (As := [iv v1]) (st := [iv v2, rr G 8 0 0]) mfX12_last mlX12_116 dX12_actual_25 rfl dm8_0 en8_0 rfl rfl rfl (by decide) (by decide) (by decide) (Nat.le_of_ble_eq_true rfl) (fun _ _ z => z.elim) h54 (fun x57 M55 h56 => ?_)
        refine ev_goto 36 dX12_actual_28 (by decide) ?_
        obtain ⟨s58, s59, h60⟩ := h56
        obtain ⟨h61, h62⟩ := h60
        refine ev_icmp_eq 43 dX12_actual_36 (by decide) s58 s59 (fun c63 => ?_) (fun c63 => ?_)
        · have h64 := h61 c63
          refine ev_iconst dX12_actual_43 ?_
          refine ev_goto 48 dX12_actual_44 (by decide) ?_
          refine ev_put fwX12_84 dX12_actual_48 dm8_0 en8_0 rfl rfl rfl (Nat.le_of_ble_eq_true rfl) ?_
          refine ev_aload_n (j := 0) dX12_actual_51 rfl rfl ?_
          refine ev_get frX12_84 dX12_actual_52 dm8_0 en8_0 rfl ?_
          refine ev_topI (b := 2) rfl ?_
          refine ev_if_le 60 dX12_actual_55 (by decide) ⟨by decide, by decide⟩ (fun c9 => absurd c9 (by decide)) (fun _ => ?_)
          refine ev_iconst dX12_actual_58 ?_
          exact ev_iret dX12_actual_59 (by decide) rfl h64
        · have h65 := h62 c63
          refine ev_iconst dX12_actual_39 ?_
          refine ev_goto 48 dX12_actual_40 (by decide) ?_
          refine ev_put fwX12_84 dX12_actual_48 dm8_0 en8_0 rfl rfl rfl (Nat.le_of_ble_eq_true rfl) ?_
          refine ev_aload_n (j := 0) dX12_actual_51 rfl rfl ?_
          refine ev_get frX12_84 dX12_actual_52 dm8_0 en8_0 rfl ?_
          refine ev_topI (b := 0) rfl ?_
          refine ev_if_le 60 dX12_actual_55 (by decide) ⟨by decide, by decide⟩ (fun _ => ?_) (fun c9 => absurd c9 (by decide))
          refine ev_aload_n (j := 0) dX12_actual_60 rfl rfl ?_
          refine ev_callVV (As := []) (st := []) mfX12_runs mlX12_274 dX12_actual_61 rfl dm8_0 en8_0 rfl rfl rfl (by decide) (by decide) (by decide) (Nat.le_of_ble_eq_true rfl) (fun _ _ z => z.elim) h65 (fun M66 h67 => ?_)
          refine ev_iload_n (j := 3) dX12_actual_64 rfl rfl ?_
          refine ev_if_eq 82 dX12_actual_65 (by decide) s21 (fun c9 => absurd c9 c25) (fun _ => ?_)
          refine ev_aload_n (j := 0) dX12_actual_68 rfl rfl ?_
          refine ev_get frX12_46 dX12_actual_69 dm8_0 en8_0 rfl ?_
          refine ev_bipush dX12_actual_72 (by decide) ?_
          refine ev_iload_n (j := 1) dX12_actual_74 rfl rfl ?_
          refine ev_imul dX12_actual_75 ?_
          refine ev_iload_n (j := 2) dX12_actual_76 rfl rfl ?_
          refine ev_iadd dX12_actual_77 ?_
          obtain ⟨s69, s70, h71⟩ := h67
          refine ev_iald dX12_actual_78 dm8_13 ar8_13 (by decide) s69 s70 ?_
          refine ev_goto 93 dX12_actual_79 (by decide) ?_
          refine ev_istore dX12_actual_93 (by decide) rfl ?_
          refine ev_iload (j := 0) dX12_actual_95 rfl ?_
          obtain ⟨s72, h73⟩ := h71
          obtain ⟨h74, h75⟩ := h73
          refine ev_if_ge 108 dX12_actual_97 (by decide) s72 (fun c76 => ?_) (fun c76 => ?_)
          · have h77 := h74 c76
            refine ev_iload (j := 0) dX12_actual_108 rfl ?_
            exact ev_iret dX12_actual_110 (by decide) rfl h77
          · have h78 := h75 c76
            refine ev_aload_n (j := 1) dX12_actual_100 rfl rfl ?_
            refine ev_iconst dX12_actual_101 ?_
            refine ev_callVI (As := [iv 2]) (st := []) mfX12_fails mlX12_146 dX12_actual_102 rfl dm8_0 en8_0 rfl rfl rfl (by decide) (by decide) (by decide) (Nat.le_of_ble_eq_true rfl) (fun _ _ z => z.elim) h78 (fun x81 M79 h80 => ?_)
            refine ev_goto 110 dX12_actual_105 (by decide) ?_
            exact ev_iret dX12_actual_110 (by decide) rfl h80
def eX12_actualBunches (G : GT) (K : List Value → Mem → Prop) (X : String → Mem → Prop) (pc : Nat) (lv : List (Nat × Value)) (st : List Value) (M : Mem) : Prop := Ex G zX12_actualBunches 5 0 K X 0 pc lv st M
set_option maxRecDepth 20000 in
set_option maxHeartbeats 4000000 in
theorem bX12_actualBunches {G : GT} {K : List Value → Mem → Prop} {X : String → Mem → Prop} {M : Mem} {v1 v2 : Int} (h : Call G 0 0 zX12_in [iv v1, iv 0, iv 1] M (kI (fun x3 M1 => I32 x3 ∧ ((x3 = 0 → K [iv 0] (wr M1 8 0 0 7 1)) ∧ (¬ x3 = 0 → Call G 1 0 zX12_isStop [iv v2] M1 (kI (fun x13 M11 => I32 x13 ∧ ((x13 = 0 → K [iv 0] (wr M11 8 0 0 7 1)) ∧ (¬ x13 = 0 → Call G 4 0 zX12_runs [rr G 8 0 0] (wr M11 8 0 0 7 0) (kV (fun M21 => eX12_actualBunches G K X 45 [(0, rr G 8 0 0), (1, iv v1), (2, iv v2), (3, iv 0)] [] (wr M21 8 0 0 10 0))) noX)))) noX)))) noX) : Call G 5 0 zX12_actualBunches [rr G 8 0 0, iv v1, iv v2] M K X := by
  refine call_intro (lv := [(0, rr G 8 0 0), (1, iv v1), (2, iv v2)]) (by decide) rfl (Nat.le_of_ble_eq_true rfl) rfl ?_
  refine ev_aload_n (j := 0) dX12_actualBunches_0 rfl rfl ?_
  refine ev_iload_n (j := 1) dX12_actualBunches_1 rfl rfl ?_
  refine ev_iconst dX12_actualBunches_2 ?_
  refine ev_iconst dX12_actualBunches_3 ?_
  refine ev_callSI (As := [iv v1, iv 0, iv 1]) (st := [rr G 8 0 0]) mfX12_in mlX12_87 dX12_actualBunches_4 rfl rfl (by decide) (by decide) (by decide) (Nat.le_of_ble_eq_true rfl) (fun _ _ z => z.elim) h (fun x3 M1 h2 => ?_)
  obtain ⟨s4, h5⟩ := h2
  obtain ⟨h6, h7⟩ := h5
  refine ev_if_eq 21 dX12_actualBunches_7 (by decide) s4 (fun c8 => ?_) (fun c8 => ?_)
  · have h9 := h6 c8
    refine ev_iconst dX12_actualBunches_21 ?_
    refine ev_put fwX12_84 dX12_actualBunches_22 dm8_0 en8_0 rfl rfl rfl (Nat.le_of_ble_eq_true rfl) ?_
    refine ev_aload_n (j := 0) dX12_actualBunches_25 rfl rfl ?_
    refine ev_get frX12_84 dX12_actualBunches_26 dm8_0 en8_0 rfl ?_
    refine ev_topI (b := 1) rfl ?_
    refine ev_if_le 34 dX12_actualBunches_29 (by decide) ⟨by decide, by decide⟩ (fun c9 => absurd c9 (by decide)) (fun _ => ?_)
    refine ev_iconst dX12_actualBunches_32 ?_
    exact ev_iret dX12_actualBunches_33 (by decide) rfl h9
  · have h10 := h7 c8
    refine ev_iload_n (j := 2) dX12_actualBunches_10 rfl rfl ?_
    refine ev_callSI (As := [iv v2]) (st := [rr G 8 0 0]) mfX12_isStop mlX12_155 dX12_actualBunches_11 rfl rfl (by decide) (by decide) (by decide) (Nat.le_of_ble_eq_true rfl) (fun _ _ z => z.elim) h10 (fun x13 M11 h12 => ?_)
    obtain ⟨s14, h15⟩ := h12
    obtain ⟨h16, h17⟩ := h15
    refine ev_if_eq 21 dX12_actualBunches_14 (by decide) s14 (fun c18 => ?_) (fun c18 => ?_)
    · have h19 := h16 c18
      refine ev_iconst dX12_actualBunches_21 ?_
      refine ev_put fwX12_84 dX12_actualBunches_22 dm8_0 en8_0 rfl rfl rfl (Nat.le_of_ble_eq_true rfl) ?_
      refine ev_aload_n (j := 0) dX12_actualBunches_25 rfl rfl ?_
      refine ev_get frX12_84 dX12_actualBunches_26 dm8_0 en8_0 rfl ?_
      refine ev_topI (b := 1) rfl ?_
      refine ev_if_le 34 dX12_actualBunches_29 (by decide) ⟨by decide, by decide⟩ (fun c9 => absurd c9 (by decide)) (fun _ => ?_)
      refine ev_iconst dX12_actualBunches_32 ?_
      exact ev_iret dX12_actualBunches_33 (by decide) rfl h19
    · have h20 := h17 c18
      refine ev_iconst dX12_actualBunches_17 ?_
      refine ev_goto 22 dX12_actualBunches_18 (by decide) ?_
      refine ev_put fwX12_84 dX12_actualBunches_22 dm8_0 en8_0 rfl rfl rfl (Nat.le_of_ble_eq_true rfl) ?_
      refine ev_aload_n (j := 0) dX12_actualBunches_25 rfl rfl ?_
      refine ev_get frX12_84 dX12_actualBunches_26 dm8_0 en8_0 rfl ?_
      refine ev_topI (b := 0) rfl ?_
      refine ev_if_le 34 dX12_actualBunches_29 (by decide) ⟨by decide, by decide⟩ (fun _ => ?_) (fun c9 => absurd c9 (by decide))
      refine ev_aload_n (j := 0) dX12_actualBunches_34 rfl rfl ?_
      refine ev_callVV (As := []) (st := []) mfX12_runs mlX12_274 dX12_actualBunches_35 rfl dm8_0 en8_0 rfl rfl rfl (by decide) (by decide) (by decide) (Nat.le_of_ble_eq_true rfl) (fun _ _ z => z.elim) h20 (fun M21 h22 => ?_)
      refine ev_aload_n (j := 0) dX12_actualBunches_38 rfl rfl ?_
      refine ev_iconst dX12_actualBunches_39 ?_
      refine ev_put fwX12_201 dX12_actualBunches_40 dm8_0 en8_0 rfl rfl rfl (Nat.le_of_ble_eq_true rfl) ?_
      refine ev_iconst dX12_actualBunches_43 ?_
      refine ev_istore_n dX12_actualBunches_44 rfl (by decide) rfl ?_
      exact ev_sub [1, 2, 3, 0] rfl h22
set_option maxRecDepth 20000 in
set_option maxHeartbeats 4000000 in
theorem bX12_actualBunches_45 {G : GT} {K : List Value → Mem → Prop} {X : String → Mem → Prop} {M : Mem} {v1 v2 v3 : Int} (h : I32 v3 ∧ I32 (M 8 0 1 37) ∧ ((¬ v3 < (M 8 0 1 37) → Call G 0 0 zX12_close [rr G 8 0 0] M (kI (fun x10 M8 => K [iv x10] M8)) noX) ∧ (v3 < (M 8 0 1 37) → Call G 1 0 zX12_direction [rr G 8 0 0, iv v3] M (kI (fun x14 M12 => I32 x14 ∧ I32 v1 ∧ ((¬ x14 = v1 → eX12_actualBunches G K X 45 [(0, rr G 8 0 0), (1, iv v1), (2, iv v2), (3, iv (v3 + 1))] [] M12) ∧ (x14 = v1 → 0 ≤ (12 * v3) + v2 ∧ (12 * v3) + v2 < 360 ∧ I32 (M12 8 0 13 ((12 * v3) + v2)) ∧ (((M12 8 0 13 ((12 * v3) + v2)) < 0 → eX12_actualBunches G K X 45 [(0, rr G 8 0 0), (1, iv v1), (2, iv v2), (3, iv (v3 + 1))] [] M12) ∧ (¬ (M12 8 0 13 ((12 * v3) + v2)) < 0 → Call G 0 0 zX12_comes [rr G 8 0 0, iv (M12 8 0 13 ((12 * v3) + v2)), iv v3] M12 (kV (fun M33 => eX12_actualBunches G K X 45 [(0, rr G 8 0 0), (1, iv v1), (2, iv v2), (3, iv (v3 + 1))] [] M33)) noX)))))) noX))) : eX12_actualBunches G K X 45 [(0, rr G 8 0 0), (1, iv v1), (2, iv v2), (3, iv v3)] [] M := by
  show Ex G zX12_actualBunches 5 0 K X 0 45 [(0, rr G 8 0 0), (1, iv v1), (2, iv v2), (3, iv v3)] [] M
  refine ev_iload_n (j := 3) dX12_actualBunches_45 rfl rfl ?_
  refine ev_aload_n (j := 0) dX12_actualBunches_46 rfl rfl ?_
  refine ev_get frX12_7 dX12_actualBunches_47 dm8_0 en8_0 rfl ?_
  refine ev_bipush dX12_actualBunches_50 (by decide) ?_
  refine ev_iald dX12_actualBunches_52 dm8_1 ar8_1 (by decide) (by decide) (by decide) ?_
  obtain ⟨s1, s2, h3⟩ := h
  obtain ⟨h4, h5⟩ := h3
  refine ev_icmp_ge 101 dX12_actualBunches_53 (by decide) s1 s2 (fun c6 => ?_) (fun c6 => ?_)
  · have h7 := h4 c6
    refine ev_aload_n (j := 0) dX12_actualBunches_101 rfl rfl ?_
    refine ev_callVI (As := []) (st := []) mfX12_close mlX12_214 dX12_actualBunches_102 rfl dm8_0 en8_0 rfl rfl rfl (by decide) (by decide) (by decide) (Nat.le_of_ble_eq_true rfl) (fun _ _ z => z.elim) h7 (fun x10 M8 h9 => ?_)
    exact ev_iret dX12_actualBunches_105 (by decide) rfl h9
  · have h11 := h5 c6
    refine ev_aload_n (j := 0) dX12_actualBunches_56 rfl rfl ?_
    refine ev_iload_n (j := 3) dX12_actualBunches_57 rfl rfl ?_
    refine ev_callVI (As := [iv v3]) (st := []) mfX12_direction mlX12_176 dX12_actualBunches_58 rfl dm8_0 en8_0 rfl rfl rfl (by decide) (by decide) (by decide) (Nat.le_of_ble_eq_true rfl) (fun _ _ z => z.elim) h11 (fun x14 M12 h13 => ?_)
    refine ev_iload_n (j := 1) dX12_actualBunches_61 rfl rfl ?_
    obtain ⟨s15, s16, h17⟩ := h13
    obtain ⟨h18, h19⟩ := h17
    refine ev_icmp_ne 95 dX12_actualBunches_62 (by decide) s15 s16 (fun c20 => ?_) (fun c20 => ?_)
    · have h21 := h18 c20
      refine ev_iinc (j := 3) dX12_actualBunches_95 rfl (by decide) rfl ?_
      refine ev_goto 45 dX12_actualBunches_98 (by decide) ?_
      exact ev_sub [1, 2, 3, 0] rfl h21
    · have h22 := h19 c20
      refine ev_aload_n (j := 0) dX12_actualBunches_65 rfl rfl ?_
      refine ev_get frX12_46 dX12_actualBunches_66 dm8_0 en8_0 rfl ?_
      refine ev_bipush dX12_actualBunches_69 (by decide) ?_
      refine ev_iload_n (j := 3) dX12_actualBunches_71 rfl rfl ?_
      refine ev_imul dX12_actualBunches_72 ?_
      refine ev_iload_n (j := 2) dX12_actualBunches_73 rfl rfl ?_
      refine ev_iadd dX12_actualBunches_74 ?_
      obtain ⟨s23, s24, h25⟩ := h22
      refine ev_iald dX12_actualBunches_75 dm8_13 ar8_13 (by decide) s23 s24 ?_
      obtain ⟨s26, h27⟩ := h25
      obtain ⟨h28, h29⟩ := h27
      refine ev_if_lt 95 dX12_actualBunches_76 (by decide) s26 (fun c30 => ?_) (fun c30 => ?_)
      · have h31 := h28 c30
        refine ev_iinc (j := 3) dX12_actualBunches_95 rfl (by decide) rfl ?_
        refine ev_goto 45 dX12_actualBunches_98 (by decide) ?_
        exact ev_sub [1, 2, 3, 0] rfl h31
      · have h32 := h29 c30
        refine ev_aload_n (j := 0) dX12_actualBunches_79 rfl rfl ?_
        refine ev_aload_n (j := 0) dX12_actualBunches_80 rfl rfl ?_
        refine ev_get frX12_46 dX12_actualBunches_81 dm8_0 en8_0 rfl ?_
        refine ev_bipush dX12_actualBunches_84 (by decide) ?_
        refine ev_iload_n (j := 3) dX12_actualBunches_86 rfl rfl ?_
        refine ev_imul dX12_actualBunches_87 ?_
        refine ev_iload_n (j := 2) dX12_actualBunches_88 rfl rfl ?_
        refine ev_iadd dX12_actualBunches_89 ?_
        refine ev_iald dX12_actualBunches_90 dm8_13 ar8_13 (by decide) s23 s24 ?_
        refine ev_iload_n (j := 3) dX12_actualBunches_91 rfl rfl ?_
        refine ev_callVV (As := [iv (M12 8 0 13 ((12 * v3) + v2)), iv v3]) (st := []) mfX12_comes mlX12_207 dX12_actualBunches_92 rfl dm8_0 en8_0 rfl rfl rfl (by decide) (by decide) (by decide) (Nat.le_of_ble_eq_true rfl) (fun _ _ z => z.elim) h32 (fun M33 h34 => ?_)
        refine ev_iinc (j := 3) dX12_actualBunches_95 rfl (by decide) rfl ?_
        refine ev_goto 45 dX12_actualBunches_98 (by decide) ?_
        exact ev_sub [1, 2, 3, 0] rfl h34
def eX12_addTrip (G : GT) (K : List Value → Mem → Prop) (X : String → Mem → Prop) (pc : Nat) (lv : List (Nat × Value)) (st : List Value) (M : Mem) : Prop := Ex G zX12_addTrip 3 0 K X 0 pc lv st M
set_option maxRecDepth 20000 in
set_option maxHeartbeats 4000000 in
theorem bX12_addTrip {G : GT} {K : List Value → Mem → Prop} {X : String → Mem → Prop} {M : Mem} {v1 v2 v3 : Int} (h : Call G 2 0 zX12_tripStops [rr G 8 0 0, iv v1, iv v2, iv v3] M (kI (fun x3 M1 => I32 x3 ∧ ((¬ 0 < x3 → Call G 1 0 zX12_begins [rr G 8 0 0] (wr M1 8 0 0 7 x3) (kV (fun M10 => Call G 0 0 zX12_tripComes [rr G 8 0 0, iv v1, iv v2, iv v3] M10 (kV (fun M13 => Call G 0 0 zX12_remembers [rr G 8 0 0] M13 (kV (fun M16 => K [iv ((M16 8 0 1 37) - 1)] M16)) noX)) noX)) noX) ∧ (0 < x3 → K [iv 0] (wr M1 8 0 0 7 x3))))) noX) : Call G 3 0 zX12_addTrip [rr G 8 0 0, iv v1, iv v2, iv v3] M K X := by
  refine call_intro (lv := [(0, rr G 8 0 0), (1, iv v1), (2, iv v2), (3, iv v3)]) (by decide) rfl (Nat.le_of_ble_eq_true rfl) rfl ?_
  refine ev_aload_n (j := 0) dX12_addTrip_0 rfl rfl ?_
  refine ev_aload_n (j := 0) dX12_addTrip_1 rfl rfl ?_
  refine ev_iload_n (j := 1) dX12_addTrip_2 rfl rfl ?_
  refine ev_iload_n (j := 2) dX12_addTrip_3 rfl rfl ?_
  refine ev_iload_n (j := 3) dX12_addTrip_4 rfl rfl ?_
  refine ev_callVI (As := [iv v1, iv v2, iv v3]) (st := [rr G 8 0 0]) mfX12_tripStops mlX12_158 dX12_addTrip_5 rfl dm8_0 en8_0 rfl rfl rfl (by decide) (by decide) (by decide) (Nat.le_of_ble_eq_true rfl) (fun _ _ z => z.elim) h (fun x3 M1 h2 => ?_)
  refine ev_put fwX12_84 dX12_addTrip_8 dm8_0 en8_0 rfl rfl rfl (Nat.le_of_ble_eq_true rfl) ?_
  refine ev_aload_n (j := 0) dX12_addTrip_11 rfl rfl ?_
  refine ev_get frX12_84 dX12_addTrip_12 dm8_0 en8_0 rfl ?_
  refine ev_topI (b := x3) rfl ?_
  obtain ⟨s4, h5⟩ := h2
  obtain ⟨h6, h7⟩ := h5
  refine ev_if_le 20 dX12_addTrip_15 (by decide) s4 (fun c8 => ?_) (fun c8 => ?_)
  · have h9 := h6 c8
    refine ev_aload_n (j := 0) dX12_addTrip_20 rfl rfl ?_
    refine ev_callVV (As := []) (st := []) mfX12_begins mlX12_139 dX12_addTrip_21 rfl dm8_0 en8_0 rfl rfl rfl (by decide) (by decide) (by decide) (Nat.le_of_ble_eq_true rfl) (fun _ _ z => z.elim) h9 (fun M10 h11 => ?_)
    refine ev_aload_n (j := 0) dX12_addTrip_24 rfl rfl ?_
    refine ev_iload_n (j := 1) dX12_addTrip_25 rfl rfl ?_
    refine ev_iload_n (j := 2) dX12_addTrip_26 rfl rfl ?_
    refine ev_iload_n (j := 3) dX12_addTrip_27 rfl rfl ?_
    refine ev_callVV (As := [iv v1, iv v2, iv v3]) (st := []) mfX12_tripComes mlX12_162 dX12_addTrip_28 rfl dm8_0 en8_0 rfl rfl rfl (by decide) (by decide) (by decide) (Nat.le_of_ble_eq_true rfl) (fun _ _ z => z.elim) h11 (fun M13 h14 => ?_)
    refine ev_aload_n (j := 0) dX12_addTrip_31 rfl rfl ?_
    refine ev_callVV (As := []) (st := []) mfX12_remembers mlX12_102 dX12_addTrip_32 rfl dm8_0 en8_0 rfl rfl rfl (by decide) (by decide) (by decide) (Nat.le_of_ble_eq_true rfl) (fun _ _ z => z.elim) h14 (fun M16 h17 => ?_)
    refine ev_aload_n (j := 0) dX12_addTrip_35 rfl rfl ?_
    refine ev_get frX12_7 dX12_addTrip_36 dm8_0 en8_0 rfl ?_
    refine ev_bipush dX12_addTrip_39 (by decide) ?_
    refine ev_iald dX12_addTrip_41 dm8_1 ar8_1 (by decide) (by decide) (by decide) ?_
    refine ev_iconst dX12_addTrip_42 ?_
    refine ev_isub dX12_addTrip_43 ?_
    exact ev_iret dX12_addTrip_44 (by decide) rfl h17
  · have h19 := h7 c8
    refine ev_iconst dX12_addTrip_18 ?_
    exact ev_iret dX12_addTrip_19 (by decide) rfl h19
def eX12_addVehicle (G : GT) (K : List Value → Mem → Prop) (X : String → Mem → Prop) (pc : Nat) (lv : List (Nat × Value)) (st : List Value) (M : Mem) : Prop := Ex G zX12_addVehicle 2 0 K X 0 pc lv st M
set_option maxRecDepth 20000 in
set_option maxHeartbeats 4000000 in
theorem bX12_addVehicle {G : GT} {K : List Value → Mem → Prop} {X : String → Mem → Prop} {M : Mem} {v1 : Int} (h : Call G 0 0 zX12_in [iv v1, iv 0, iv 1] M (kI (fun x3 M1 => I32 x3 ∧ ((x3 = 0 → K [iv 0] (wr M1 8 0 0 7 1)) ∧ (¬ x3 = 0 → I32 (M1 8 0 1 160) ∧ ((¬ (M1 8 0 1 160) = 10 → Call G 1 0 zX12_begins [rr G 8 0 0] (wr M1 8 0 0 7 0) (kV (fun M17 => 0 ≤ 161 + (M17 8 0 1 160) ∧ 161 + (M17 8 0 1 160) < 500 ∧ 0 ≤ 171 + (M17 8 0 1 160) ∧ 171 + (M17 8 0 1 160) < 500 ∧ ∀ M26 : Mem, M26 = wr (wr M17 8 0 1 (161 + (M17 8 0 1 160)) v1) 8 0 1 (171 + (M17 8 0 1 160)) 0 → Call G 0 0 zX12_remembers [rr G 8 0 0] (wr M26 8 0 1 160 ((M26 8 0 1 160) + 1)) (kV (fun M29 => K [iv (M17 8 0 1 160)] M29)) noX)) noX) ∧ ((M1 8 0 1 160) = 10 → K [iv 0] (wr M1 8 0 0 7 2))))))) noX) : Call G 2 0 zX12_addVehicle [rr G 8 0 0, iv v1] M K X := by
  refine call_intro (lv := [(0, rr G 8 0 0), (1, iv v1)]) (by decide) rfl (Nat.le_of_ble_eq_true rfl) rfl ?_
  refine ev_aload_n (j := 0) dX12_addVehicle_0 rfl rfl ?_
  refine ev_iload_n (j := 1) dX12_addVehicle_1 rfl rfl ?_
  refine ev_iconst dX12_addVehicle_2 ?_
  refine ev_iconst dX12_addVehicle_3 ?_
  refine ev_callSI (As := [iv v1, iv 0, iv 1]) (st := [rr G 8 0 0]) mfX12_in mlX12_87 dX12_addVehicle_4 rfl rfl (by decide) (by decide) (by decide) (Nat.le_of_ble_eq_true rfl) (fun _ _ z => z.elim) h (fun x3 M1 h2 => ?_)
  obtain ⟨s4, h5⟩ := h2
  obtain ⟨h6, h7⟩ := h5
  refine ev_if_eq 31 dX12_addVehicle_7 (by decide) s4 (fun c8 => ?_) (fun c8 => ?_)
  · have h9 := h6 c8
    refine ev_iconst dX12_addVehicle_31 ?_
    refine ev_put fwX12_84 dX12_addVehicle_32 dm8_0 en8_0 rfl rfl rfl (Nat.le_of_ble_eq_true rfl) ?_
    refine ev_aload_n (j := 0) dX12_addVehicle_35 rfl rfl ?_
    refine ev_get frX12_84 dX12_addVehicle_36 dm8_0 en8_0 rfl ?_
    refine ev_topI (b := 1) rfl ?_
    refine ev_if_le 44 dX12_addVehicle_39 (by decide) ⟨by decide, by decide⟩ (fun c9 => absurd c9 (by decide)) (fun _ => ?_)
    refine ev_iconst dX12_addVehicle_42 ?_
    exact ev_iret dX12_addVehicle_43 (by decide) rfl h9
  · have h10 := h7 c8
    refine ev_aload_n (j := 0) dX12_addVehicle_10 rfl rfl ?_
    refine ev_get frX12_7 dX12_addVehicle_11 dm8_0 en8_0 rfl ?_
    refine ev_sipush dX12_addVehicle_14 (by decide) ?_
    refine ev_iald dX12_addVehicle_17 dm8_1 ar8_1 (by decide) (by decide) (by decide) ?_
    refine ev_bipush dX12_addVehicle_18 (by decide) ?_
    obtain ⟨s11, h12⟩ := h10
    obtain ⟨h13, h14⟩ := h12
    refine ev_icmp_ne 27 dX12_addVehicle_20 (by decide) s11 ⟨by decide, by decide⟩ (fun c15 => ?_) (fun c15 => ?_)
    · have h16 := h13 c15
      refine ev_iconst dX12_addVehicle_27 ?_
      refine ev_goto 32 dX12_addVehicle_28 (by decide) ?_
      refine ev_put fwX12_84 dX12_addVehicle_32 dm8_0 en8_0 rfl rfl rfl (Nat.le_of_ble_eq_true rfl) ?_
      refine ev_aload_n (j := 0) dX12_addVehicle_35 rfl rfl ?_
      refine ev_get frX12_84 dX12_addVehicle_36 dm8_0 en8_0 rfl ?_
      refine ev_topI (b := 0) rfl ?_
      refine ev_if_le 44 dX12_addVehicle_39 (by decide) ⟨by decide, by decide⟩ (fun _ => ?_) (fun c9 => absurd c9 (by decide))
      refine ev_aload_n (j := 0) dX12_addVehicle_44 rfl rfl ?_
      refine ev_callVV (As := []) (st := []) mfX12_begins mlX12_139 dX12_addVehicle_45 rfl dm8_0 en8_0 rfl rfl rfl (by decide) (by decide) (by decide) (Nat.le_of_ble_eq_true rfl) (fun _ _ z => z.elim) h16 (fun M17 h18 => ?_)
      refine ev_aload_n (j := 0) dX12_addVehicle_48 rfl rfl ?_
      refine ev_get frX12_7 dX12_addVehicle_49 dm8_0 en8_0 rfl ?_
      refine ev_sipush dX12_addVehicle_52 (by decide) ?_
      refine ev_iald dX12_addVehicle_55 dm8_1 ar8_1 (by decide) (by decide) (by decide) ?_
      refine ev_istore_n dX12_addVehicle_56 rfl (by decide) rfl ?_
      refine ev_aload_n (j := 1) dX12_addVehicle_57 rfl rfl ?_
      refine ev_get frX12_7 dX12_addVehicle_58 dm8_0 en8_0 rfl ?_
      refine ev_sipush dX12_addVehicle_61 (by decide) ?_
      refine ev_iload_n (j := 0) dX12_addVehicle_64 rfl rfl ?_
      refine ev_iadd dX12_addVehicle_65 ?_
      refine ev_iload_n (j := 2) dX12_addVehicle_66 rfl rfl ?_
      obtain ⟨s20, s21, h22⟩ := h18
      refine ev_iast dX12_addVehicle_67 dm8_1 ar8_1 (by decide) s20 s21 ?_
      refine ev_aload_n (j := 1) dX12_addVehicle_68 rfl rfl ?_
      refine ev_get frX12_7 dX12_addVehicle_69 dm8_0 en8_0 rfl ?_
      refine ev_sipush dX12_addVehicle_72 (by decide) ?_
      refine ev_iload_n (j := 0) dX12_addVehicle_75 rfl rfl ?_
      refine ev_iadd dX12_addVehicle_76 ?_
      refine ev_iconst dX12_addVehicle_77 ?_
      obtain ⟨s23, s24, h25⟩ := h22
      refine ev_iast dX12_addVehicle_78 dm8_1 ar8_1 (by decide) s23 s24 ?_
      obtain ⟨M26, e28⟩ : ∃ M26 : Mem, M26 = wr (wr M17 8 0 1 (161 + (M17 8 0 1 160)) v1) 8 0 1 (171 + (M17 8 0 1 160)) 0 := ⟨_, rfl⟩
      have h27 := h25 _ e28
      refine ev_mem e28 ?_
      refine ev_aload_n (j := 1) dX12_addVehicle_79 rfl rfl ?_
      refine ev_get frX12_7 dX12_addVehicle_80 dm8_0 en8_0 rfl ?_
      refine ev_sipush dX12_addVehicle_83 (by decide) ?_
      refine ev_dup2 dX12_addVehicle_86 rfl rfl ?_
      refine ev_iald dX12_addVehicle_87 dm8_1 ar8_1 (by decide) (by decide) (by decide) ?_
      refine ev_iconst dX12_addVehicle_88 ?_
      refine ev_iadd dX12_addVehicle_89 ?_
      refine ev_iast dX12_addVehicle_90 dm8_1 ar8_1 (by decide) (by decide) (by decide) ?_
      refine ev_aload_n (j := 1) dX12_addVehicle_91 rfl rfl ?_
      refine ev_callVV (As := []) (st := []) mfX12_remembers mlX12_102 dX12_addVehicle_92 rfl dm8_0 en8_0 rfl rfl rfl (by decide) (by decide) (by decide) (Nat.le_of_ble_eq_true rfl) (fun _ _ z => z.elim) h27 (fun M29 h30 => ?_)
      refine ev_iload_n (j := 0) dX12_addVehicle_95 rfl rfl ?_
      exact ev_iret dX12_addVehicle_96 (by decide) rfl h30
    · have h32 := h14 c15
      refine ev_iconst dX12_addVehicle_23 ?_
      refine ev_goto 32 dX12_addVehicle_24 (by decide) ?_
      refine ev_put fwX12_84 dX12_addVehicle_32 dm8_0 en8_0 rfl rfl rfl (Nat.le_of_ble_eq_true rfl) ?_
      refine ev_aload_n (j := 0) dX12_addVehicle_35 rfl rfl ?_
      refine ev_get frX12_84 dX12_addVehicle_36 dm8_0 en8_0 rfl ?_
      refine ev_topI (b := 2) rfl ?_
      refine ev_if_le 44 dX12_addVehicle_39 (by decide) ⟨by decide, by decide⟩ (fun c9 => absurd c9 (by decide)) (fun _ => ?_)
      refine ev_iconst dX12_addVehicle_42 ?_
      exact ev_iret dX12_addVehicle_43 (by decide) rfl h32
def eX12_append (G : GT) (K : List Value → Mem → Prop) (X : String → Mem → Prop) (pc : Nat) (lv : List (Nat × Value)) (st : List Value) (M : Mem) : Prop := Ex G zX12_append 0 0 K X 0 pc lv st M
set_option maxRecDepth 20000 in
set_option maxHeartbeats 4000000 in
theorem bX12_append {G : GT} {K : List Value → Mem → Prop} {X : String → Mem → Prop} {M : Mem} {v1 : Int} (h : I32 (M 8 0 0 33) ∧ ((¬ (M 8 0 0 33) = 60 → 0 ≤ M 8 0 0 33 ∧ M 8 0 0 33 < 60 ∧ ∀ M10 : Mem, M10 = wr (wr (wr M 8 0 0 7 0) 8 0 22 (M 8 0 0 33) v1) 8 0 0 33 ((M 8 0 0 33) + 1) → K [] M10) ∧ ((M 8 0 0 33) = 60 → K [] (wr M 8 0 0 7 1)))) : Call G 0 0 zX12_append [rr G 8 0 0, iv v1] M K X := by
  refine call_intro (lv := [(0, rr G 8 0 0), (1, iv v1)]) (by decide) rfl (Nat.le_of_ble_eq_true rfl) rfl ?_
  refine ev_aload_n (j := 0) dX12_append_0 rfl rfl ?_
  refine ev_aload_n (j := 0) dX12_append_1 rfl rfl ?_
  refine ev_get frX12_329 dX12_append_2 dm8_0 en8_0 rfl ?_
  refine ev_bipush dX12_append_5 (by decide) ?_
  obtain ⟨s1, h2⟩ := h
  obtain ⟨h3, h4⟩ := h2
  refine ev_icmp_ne 14 dX12_append_7 (by decide) s1 ⟨by decide, by decide⟩ (fun c5 => ?_) (fun c5 => ?_)
  · have h6 := h3 c5
    refine ev_iconst dX12_append_14 ?_
    refine ev_put fwX12_84 dX12_append_15 dm8_0 en8_0 rfl rfl rfl (Nat.le_of_ble_eq_true rfl) ?_
    refine ev_aload_n (j := 0) dX12_append_18 rfl rfl ?_
    refine ev_get frX12_84 dX12_append_19 dm8_0 en8_0 rfl ?_
    refine ev_topI (b := 0) rfl ?_
    refine ev_if_ne 45 dX12_append_22 (by decide) ⟨by decide, by decide⟩ (fun c9 => absurd c9 (by decide)) (fun _ => ?_)
    refine ev_aload_n (j := 0) dX12_append_25 rfl rfl ?_
    refine ev_get frX12_74 dX12_append_26 dm8_0 en8_0 rfl ?_
    refine ev_aload_n (j := 0) dX12_append_29 rfl rfl ?_
    refine ev_get frX12_329 dX12_append_30 dm8_0 en8_0 rfl ?_
    refine ev_topI (b := M 8 0 0 33) rfl ?_
    refine ev_iload_n (j := 1) dX12_append_33 rfl rfl ?_
    obtain ⟨s7, s8, h9⟩ := h6
    refine ev_iast dX12_append_34 dm8_22 ar8_22 (by decide) s7 s8 ?_
    refine ev_aload_n (j := 0) dX12_append_35 rfl rfl ?_
    refine ev_dup dX12_append_36 rfl ?_
    refine ev_get frX12_329 dX12_append_37 dm8_0 en8_0 rfl ?_
    refine ev_topI (b := M 8 0 0 33) rfl ?_
    refine ev_iconst dX12_append_40 ?_
    refine ev_iadd dX12_append_41 ?_
    refine ev_put fwX12_329 dX12_append_42 dm8_0 en8_0 rfl rfl rfl (Nat.le_of_ble_eq_true rfl) ?_
    obtain ⟨M10, e12⟩ : ∃ M10 : Mem, M10 = wr (wr (wr M 8 0 0 7 0) 8 0 22 (M 8 0 0 33) v1) 8 0 0 33 ((M 8 0 0 33) + 1) := ⟨_, rfl⟩
    have h11 := h9 _ e12
    refine ev_mem e12 ?_
    exact ev_vret dX12_append_45 (by decide) rfl h11
  · have h13 := h4 c5
    refine ev_iconst dX12_append_10 ?_
    refine ev_goto 15 dX12_append_11 (by decide) ?_
    refine ev_put fwX12_84 dX12_append_15 dm8_0 en8_0 rfl rfl rfl (Nat.le_of_ble_eq_true rfl) ?_
    refine ev_aload_n (j := 0) dX12_append_18 rfl rfl ?_
    refine ev_get frX12_84 dX12_append_19 dm8_0 en8_0 rfl ?_
    refine ev_topI (b := 1) rfl ?_
    refine ev_if_ne 45 dX12_append_22 (by decide) ⟨by decide, by decide⟩ (fun _ => ?_) (fun c9 => absurd c9 (by decide))
    exact ev_vret dX12_append_45 (by decide) rfl h13
def eX12_arrives (G : GT) (K : List Value → Mem → Prop) (X : String → Mem → Prop) (pc : Nat) (lv : List (Nat × Value)) (st : List Value) (M : Mem) : Prop := Ex G zX12_arrives 1 0 K X 0 pc lv st M
set_option maxRecDepth 20000 in
set_option maxHeartbeats 4000000 in
theorem bX12_arrives {G : GT} {K : List Value → Mem → Prop} {X : String → Mem → Prop} {M : Mem} {v1 : Int} (h : Call G 0 0 zX12_departs [rr G 8 0 0, iv v1] M (kI (fun x3 M1 => Call G 0 0 zX12_first [rr G 8 0 0, iv v1] M1 (kI (fun x6 M4 => Call G 0 0 zX12_last [rr G 8 0 0, iv v1] M4 (kI (fun x9 M7 => Call G 0 0 zX12_between [rr G 8 0 0, iv x6, iv x9] M7 (kI (fun x12 M10 => K [iv (x3 + x12)] M10)) noX)) noX)) noX)) noX) : Call G 1 0 zX12_arrives [rr G 8 0 0, iv v1] M K X := by
  refine call_intro (lv := [(0, rr G 8 0 0), (1, iv v1)]) (by decide) rfl (Nat.le_of_ble_eq_true rfl) rfl ?_
  refine ev_aload_n (j := 0) dX12_arrives_0 rfl rfl ?_
  refine ev_iload_n (j := 1) dX12_arrives_1 rfl rfl ?_
  refine ev_callVI (As := [iv v1]) (st := []) mfX12_departs mlX12_109 dX12_arrives_2 rfl dm8_0 en8_0 rfl rfl rfl (by decide) (by decide) (by decide) (Nat.le_of_ble_eq_true rfl) (fun _ _ z => z.elim) h (fun x3 M1 h2 => ?_)
  refine ev_aload_n (j := 0) dX12_arrives_5 rfl rfl ?_
  refine ev_aload_n (j := 0) dX12_arrives_6 rfl rfl ?_
  refine ev_iload_n (j := 1) dX12_arrives_7 rfl rfl ?_
  refine ev_callVI (As := [iv v1]) (st := [rr G 8 0 0, iv x3]) mfX12_first mlX12_113 dX12_arrives_8 rfl dm8_0 en8_0 rfl rfl rfl (by decide) (by decide) (by decide) (Nat.le_of_ble_eq_true rfl) (fun _ _ z => z.elim) h2 (fun x6 M4 h5 => ?_)
  refine ev_aload_n (j := 0) dX12_arrives_11 rfl rfl ?_
  refine ev_iload_n (j := 1) dX12_arrives_12 rfl rfl ?_
  refine ev_callVI (As := [iv v1]) (st := [iv x6, rr G 8 0 0, iv x3]) mfX12_last mlX12_116 dX12_arrives_13 rfl dm8_0 en8_0 rfl rfl rfl (by decide) (by decide) (by decide) (Nat.le_of_ble_eq_true rfl) (fun _ _ z => z.elim) h5 (fun x9 M7 h8 => ?_)
  refine ev_callVI (As := [iv x6, iv x9]) (st := [iv x3]) mfX12_between mlX12_119 dX12_arrives_16 rfl dm8_0 en8_0 rfl rfl rfl (by decide) (by decide) (by decide) (Nat.le_of_ble_eq_true rfl) (fun _ _ z => z.elim) h8 (fun x12 M10 h11 => ?_)
  refine ev_iadd dX12_arrives_19 ?_
  exact ev_iret dX12_arrives_20 (by decide) rfl h11
def eX12_arrivesAt (G : GT) (K : List Value → Mem → Prop) (X : String → Mem → Prop) (pc : Nat) (lv : List (Nat × Value)) (st : List Value) (M : Mem) : Prop := Ex G zX12_arrivesAt 2 0 K X 0 pc lv st M
set_option maxRecDepth 20000 in
set_option maxHeartbeats 4000000 in
theorem bX12_arrivesAt {G : GT} {K : List Value → Mem → Prop} {X : String → Mem → Prop} {M : Mem} {v1 v2 v3 v4 : Int} (h : 0 ≤ (12 * v2) + v3 ∧ (12 * v2) + v3 < 360 ∧ 0 ≤ v1 ∧ v1 < 10 ∧ ∀ M7 : Mem, M7 = wr (wr (wr M 8 0 12 ((12 * v2) + v3) v4) 8 0 9 v1 v3) 8 0 10 v1 v4 → Call G 0 0 zX12_last [rr G 8 0 0, iv v2] M7 (kI (fun x12 M10 => I32 v3 ∧ I32 x12 ∧ ((v3 = x12 → 0 ≤ 171 + v1 ∧ 171 + v1 < 500 ∧ I32 ((M10 8 0 8 v1) + 1) ∧ I32 (M10 8 0 1 (171 + v1)) ∧ ((¬ ((M10 8 0 8 v1) + 1) < (M10 8 0 1 (171 + v1)) → K [] (wr M10 8 0 8 v1 (-1))) ∧ (((M10 8 0 8 v1) + 1) < (M10 8 0 1 (171 + v1)) → Call G 1 0 zX12_startsTrip [rr G 8 0 0, iv v1, iv ((M10 8 0 8 v1) + 1), iv (v4 + (M10 8 0 1 34))] M10 (kV (fun M31 => K [] M31)) noX))) ∧ (¬ v3 = x12 → K [] M10)))) noX) : Call G 2 0 zX12_arrivesAt [rr G 8 0 0, iv v1, iv v2, iv v3, iv v4] M K X := by
  refine call_intro (lv := [(0, rr G 8 0 0), (1, iv v1), (2, iv v2), (3, iv v3), (4, iv v4)]) (by decide) rfl (Nat.le_of_ble_eq_true rfl) rfl ?_
  refine ev_aload_n (j := 0) dX12_arrivesAt_0 rfl rfl ?_
  refine ev_get frX12_43 dX12_arrivesAt_1 dm8_0 en8_0 rfl ?_
  refine ev_bipush dX12_arrivesAt_4 (by decide) ?_
  refine ev_iload_n (j := 2) dX12_arrivesAt_6 rfl rfl ?_
  refine ev_imul dX12_arrivesAt_7 ?_
  refine ev_iload_n (j := 3) dX12_arrivesAt_8 rfl rfl ?_
  refine ev_iadd dX12_arrivesAt_9 ?_
  refine ev_iload (j := 4) dX12_arrivesAt_10 rfl ?_
  obtain ⟨s1, s2, h3⟩ := h
  refine ev_iast dX12_arrivesAt_12 dm8_12 ar8_12 (by decide) s1 s2 ?_
  refine ev_aload_n (j := 0) dX12_arrivesAt_13 rfl rfl ?_
  refine ev_get frX12_34 dX12_arrivesAt_14 dm8_0 en8_0 rfl ?_
  refine ev_iload_n (j := 1) dX12_arrivesAt_17 rfl rfl ?_
  refine ev_iload_n (j := 3) dX12_arrivesAt_18 rfl rfl ?_
  obtain ⟨s4, s5, h6⟩ := h3
  refine ev_iast dX12_arrivesAt_19 dm8_9 ar8_9 (by decide) s4 s5 ?_
  refine ev_aload_n (j := 0) dX12_arrivesAt_20 rfl rfl ?_
  refine ev_get frX12_37 dX12_arrivesAt_21 dm8_0 en8_0 rfl ?_
  refine ev_iload_n (j := 1) dX12_arrivesAt_24 rfl rfl ?_
  refine ev_iload (j := 4) dX12_arrivesAt_25 rfl ?_
  refine ev_iast dX12_arrivesAt_27 dm8_10 ar8_10 (by decide) s4 s5 ?_
  obtain ⟨M7, e9⟩ : ∃ M7 : Mem, M7 = wr (wr (wr M 8 0 12 ((12 * v2) + v3) v4) 8 0 9 v1 v3) 8 0 10 v1 v4 := ⟨_, rfl⟩
  have h8 := h6 _ e9
  refine ev_mem e9 ?_
  refine ev_iload_n (j := 3) dX12_arrivesAt_28 rfl rfl ?_
  refine ev_aload_n (j := 0) dX12_arrivesAt_29 rfl rfl ?_
  refine ev_iload_n (j := 2) dX12_arrivesAt_30 rfl rfl ?_
  refine ev_callVI (As := [iv v2]) (st := [iv v3]) mfX12_last mlX12_116 dX12_arrivesAt_31 rfl dm8_0 en8_0 rfl rfl rfl (by decide) (by decide) (by decide) (Nat.le_of_ble_eq_true rfl) (fun _ _ z => z.elim) h8 (fun x12 M10 h11 => ?_)
  obtain ⟨s13, s14, h15⟩ := h11
  obtain ⟨h16, h17⟩ := h15
  refine ev_icmp_eq 38 dX12_arrivesAt_34 (by decide) s13 s14 (fun c18 => ?_) (fun c18 => ?_)
  · have h19 := h16 c18
    refine ev_aload_n (j := 0) dX12_arrivesAt_38 rfl rfl ?_
    refine ev_get frX12_31 dX12_arrivesAt_39 dm8_0 en8_0 rfl ?_
    refine ev_iload_n (j := 1) dX12_arrivesAt_42 rfl rfl ?_
    refine ev_iald dX12_arrivesAt_43 dm8_8 ar8_8 (by decide) s4 s5 ?_
    refine ev_iconst dX12_arrivesAt_44 ?_
    refine ev_iadd dX12_arrivesAt_45 ?_
    refine ev_aload_n (j := 0) dX12_arrivesAt_46 rfl rfl ?_
    refine ev_get frX12_7 dX12_arrivesAt_47 dm8_0 en8_0 rfl ?_
    refine ev_sipush dX12_arrivesAt_50 (by decide) ?_
    refine ev_iload_n (j := 1) dX12_arrivesAt_53 rfl rfl ?_
    refine ev_iadd dX12_arrivesAt_54 ?_
    obtain ⟨s20, s21, h22⟩ := h19
    refine ev_iald dX12_arrivesAt_55 dm8_1 ar8_1 (by decide) s20 s21 ?_
    obtain ⟨s23, s24, h25⟩ := h22
    obtain ⟨h26, h27⟩ := h25
    refine ev_icmp_ge 85 dX12_arrivesAt_56 (by decide) s23 s24 (fun c28 => ?_) (fun c28 => ?_)
    · have h29 := h26 c28
      refine ev_aload_n (j := 0) dX12_arrivesAt_85 rfl rfl ?_
      refine ev_get frX12_31 dX12_arrivesAt_86 dm8_0 en8_0 rfl ?_
      refine ev_iload_n (j := 1) dX12_arrivesAt_89 rfl rfl ?_
      refine ev_iconst dX12_arrivesAt_90 ?_
      refine ev_iast dX12_arrivesAt_91 dm8_8 ar8_8 (by decide) s4 s5 ?_
      exact ev_vret dX12_arrivesAt_92 (by decide) rfl h29
    · have h30 := h27 c28
      refine ev_aload_n (j := 0) dX12_arrivesAt_59 rfl rfl ?_
      refine ev_iload_n (j := 1) dX12_arrivesAt_60 rfl rfl ?_
      refine ev_aload_n (j := 0) dX12_arrivesAt_61 rfl rfl ?_
      refine ev_get frX12_31 dX12_arrivesAt_62 dm8_0 en8_0 rfl ?_
      refine ev_iload_n (j := 1) dX12_arrivesAt_65 rfl rfl ?_
      refine ev_iald dX12_arrivesAt_66 dm8_8 ar8_8 (by decide) s4 s5 ?_
      refine ev_iconst dX12_arrivesAt_67 ?_
      refine ev_iadd dX12_arrivesAt_68 ?_
      refine ev_iload (j := 4) dX12_arrivesAt_69 rfl ?_
      refine ev_aload_n (j := 0) dX12_arrivesAt_71 rfl rfl ?_
      refine ev_get frX12_7 dX12_arrivesAt_72 dm8_0 en8_0 rfl ?_
      refine ev_bipush dX12_arrivesAt_75 (by decide) ?_
      refine ev_iald dX12_arrivesAt_77 dm8_1 ar8_1 (by decide) (by decide) (by decide) ?_
      refine ev_iadd dX12_arrivesAt_78 ?_
      refine ev_callVV (As := [iv v1, iv ((M10 8 0 8 v1) + 1), iv (v4 + (M10 8 0 1 34))]) (st := []) mfX12_startsTrip mlX12_257 dX12_arrivesAt_79 rfl dm8_0 en8_0 rfl rfl rfl (by decide) (by decide) (by decide) (Nat.le_of_ble_eq_true rfl) (fun _ _ z => z.elim) h30 (fun M31 h32 => ?_)
      refine ev_goto 92 dX12_arrivesAt_82 (by decide) ?_
      exact ev_vret dX12_arrivesAt_92 (by decide) rfl h32
  · have h34 := h17 c18
    exact ev_vret dX12_arrivesAt_37 (by decide) rfl h34
def eX12_begins (G : GT) (K : List Value → Mem → Prop) (X : String → Mem → Prop) (pc : Nat) (lv : List (Nat × Value)) (st : List Value) (M : Mem) : Prop := Ex G zX12_begins 1 0 K X 0 pc lv st M
set_option maxRecDepth 20000 in
set_option maxHeartbeats 4000000 in
theorem bX12_begins {G : GT} {K : List Value → Mem → Prop} {X : String → Mem → Prop} {M : Mem} (h : Call G 0 0 zX12_copies [rr G 8 0 0, rr G 8 0 1, rr G 8 0 3] M (kV (fun M1 => K [] M1)) noX) : Call G 1 0 zX12_begins [rr G 8 0 0] M K X := by
  refine call_intro (lv := [(0, rr G 8 0 0)]) (by decide) rfl (Nat.le_of_ble_eq_true rfl) rfl ?_
  refine ev_aload_n (j := 0) dX12_begins_0 rfl rfl ?_
  refine ev_aload_n (j := 0) dX12_begins_1 rfl rfl ?_
  refine ev_get frX12_7 dX12_begins_2 dm8_0 en8_0 rfl ?_
  refine ev_aload_n (j := 0) dX12_begins_5 rfl rfl ?_
  refine ev_get frX12_16 dX12_begins_6 dm8_0 en8_0 rfl ?_
  refine ev_callVV (As := [rr G 8 0 1, rr G 8 0 3]) (st := []) mfX12_copies mlX12_94 dX12_begins_9 rfl dm8_0 en8_0 rfl rfl rfl (by decide) (by decide) (by decide) (Nat.le_of_ble_eq_true rfl) (fun _ _ z => z.elim) h (fun M1 h2 => ?_)
  exact ev_vret dX12_begins_12 (by decide) rfl h2
def eX12_between (G : GT) (K : List Value → Mem → Prop) (X : String → Mem → Prop) (pc : Nat) (lv : List (Nat × Value)) (st : List Value) (M : Mem) : Prop := Ex G zX12_between 0 0 K X 0 pc lv st M
set_option maxRecDepth 20000 in
set_option maxHeartbeats 4000000 in
theorem bX12_between {G : GT} {K : List Value → Mem → Prop} {X : String → Mem → Prop} {M : Mem} {v1 v2 : Int} (h : I32 v1 ∧ I32 v2 ∧ ((¬ v1 < v2 → eX12_between G K X 29 [(0, rr G 8 0 0), (4, iv v1), (5, iv 0), (6, iv v2)] [] M) ∧ (v1 < v2 → eX12_between G K X 29 [(0, rr G 8 0 0), (4, iv v2), (5, iv 0), (6, iv v1)] [] M))) : Call G 0 0 zX12_between [rr G 8 0 0, iv v1, iv v2] M K X := by
  refine call_intro (lv := [(0, rr G 8 0 0), (1, iv v1), (2, iv v2)]) (by decide) rfl (Nat.le_of_ble_eq_true rfl) rfl ?_
  refine ev_iload_n (j := 1) dX12_between_0 rfl rfl ?_
  refine ev_iload_n (j := 2) dX12_between_1 rfl rfl ?_
  obtain ⟨s1, s2, h3⟩ := h
  obtain ⟨h4, h5⟩ := h3
  refine ev_icmp_ge 9 dX12_between_2 (by decide) s1 s2 (fun c6 => ?_) (fun c6 => ?_)
  · have h7 := h4 c6
    refine ev_iload_n (j := 2) dX12_between_9 rfl rfl ?_
    refine ev_istore_n dX12_between_10 rfl (by decide) rfl ?_
    refine ev_iload_n (j := 2) dX12_between_11 rfl rfl ?_
    refine ev_iload_n (j := 3) dX12_between_12 rfl rfl ?_
    refine ev_icmp_ge 20 dX12_between_13 (by decide) s1 s2 (fun _ => ?_) (fun c9 => absurd c9 c6)
    refine ev_iload_n (j := 2) dX12_between_20 rfl rfl ?_
    refine ev_istore dX12_between_21 (by decide) rfl ?_
    refine ev_iconst dX12_between_23 ?_
    refine ev_istore dX12_between_24 (by decide) rfl ?_
    refine ev_iload_n (j := 2) dX12_between_26 rfl rfl ?_
    refine ev_istore dX12_between_27 (by decide) rfl ?_
    exact ev_sub [4, 2, 1, 0] rfl h7
  · have h8 := h5 c6
    refine ev_iload_n (j := 1) dX12_between_5 rfl rfl ?_
    refine ev_goto 10 dX12_between_6 (by decide) ?_
    refine ev_istore_n dX12_between_10 rfl (by decide) rfl ?_
    refine ev_iload_n (j := 2) dX12_between_11 rfl rfl ?_
    refine ev_iload_n (j := 3) dX12_between_12 rfl rfl ?_
    refine ev_icmp_ge 20 dX12_between_13 (by decide) s1 s2 (fun c9 => absurd c6 c9) (fun _ => ?_)
    refine ev_iload_n (j := 3) dX12_between_16 rfl rfl ?_
    refine ev_goto 21 dX12_between_17 (by decide) ?_
    refine ev_istore dX12_between_21 (by decide) rfl ?_
    refine ev_iconst dX12_between_23 ?_
    refine ev_istore dX12_between_24 (by decide) rfl ?_
    refine ev_iload_n (j := 2) dX12_between_26 rfl rfl ?_
    refine ev_istore dX12_between_27 (by decide) rfl ?_
    exact ev_sub [4, 2, 1, 0] rfl h8
set_option maxRecDepth 20000 in
set_option maxHeartbeats 4000000 in
theorem bX12_between_29 {G : GT} {K : List Value → Mem → Prop} {X : String → Mem → Prop} {M : Mem} {v4 v5 v6 : Int} (h : I32 v6 ∧ I32 v4 ∧ ((¬ v6 < v4 → K [iv v5] M) ∧ (v6 < v4 → 0 ≤ v6 ∧ v6 < 500 ∧ eX12_between G K X 29 [(0, rr G 8 0 0), (4, iv v4), (5, iv (v5 + (M 8 0 1 v6))), (6, iv (v6 + 1))] [] M))) : eX12_between G K X 29 [(0, rr G 8 0 0), (4, iv v4), (5, iv v5), (6, iv v6)] [] M := by
  show Ex G zX12_between 0 0 K X 0 29 [(0, rr G 8 0 0), (4, iv v4), (5, iv v5), (6, iv v6)] [] M
  refine ev_iload (j := 3) dX12_between_29 rfl ?_
  refine ev_iload (j := 1) dX12_between_31 rfl ?_
  obtain ⟨s1, s2, h3⟩ := h
  obtain ⟨h4, h5⟩ := h3
  refine ev_icmp_ge 54 dX12_between_33 (by decide) s1 s2 (fun c6 => ?_) (fun c6 => ?_)
  · have h7 := h4 c6
    refine ev_iload (j := 2) dX12_between_54 rfl ?_
    exact ev_iret dX12_between_56 (by decide) rfl h7
  · have h8 := h5 c6
    refine ev_iload (j := 2) dX12_between_36 rfl ?_
    refine ev_aload_n (j := 0) dX12_between_38 rfl rfl ?_
    refine ev_get frX12_7 dX12_between_39 dm8_0 en8_0 rfl ?_
    refine ev_iload (j := 3) dX12_between_42 rfl ?_
    obtain ⟨s9, s10, h11⟩ := h8
    refine ev_iald dX12_between_44 dm8_1 ar8_1 (by decide) s9 s10 ?_
    refine ev_iadd dX12_between_45 ?_
    refine ev_istore dX12_between_46 (by decide) rfl ?_
    refine ev_iinc (j := 3) dX12_between_48 rfl (by decide) rfl ?_
    refine ev_goto 29 dX12_between_51 (by decide) ?_
    exact ev_sub [2, 3, 1, 0] rfl h11
def eX12_block (G : GT) (K : List Value → Mem → Prop) (X : String → Mem → Prop) (pc : Nat) (lv : List (Nat × Value)) (st : List Value) (M : Mem) : Prop := Ex G zX12_block 2 0 K X 0 pc lv st M
set_option maxRecDepth 20000 in
set_option maxHeartbeats 4000000 in
theorem bX12_block {G : GT} {K : List Value → Mem → Prop} {X : String → Mem → Prop} {M : Mem} {v1 v2 v3 : Int} (h : Call G 1 0 zX12_isSection [iv v1] M (kI (fun x3 M1 => I32 x3 ∧ ((x3 = 0 → K [iv 0] (wr M1 8 0 0 7 1)) ∧ (¬ x3 = 0 → Call G 0 0 zX12_in [iv v2, iv 0, iv 2000] M1 (kI (fun x13 M11 => I32 x13 ∧ ((x13 = 0 → K [iv 0] (wr M11 8 0 0 7 2)) ∧ (¬ x13 = 0 → Call G 0 0 zX12_in [iv v3, iv v2, iv 2000] M11 (kI (fun x23 M21 => I32 x23 ∧ ((x23 = 0 → K [iv 0] (wr M21 8 0 0 7 2)) ∧ (¬ x23 = 0 → I32 (M21 8 0 1 481) ∧ ((¬ (M21 8 0 1 481) = 6 → Call G 1 0 zX12_begins [rr G 8 0 0] (wr M21 8 0 0 7 0) (kV (fun M37 => 0 ≤ 482 + (3 * (M37 8 0 1 481)) ∧ 482 + (3 * (M37 8 0 1 481)) < 500 ∧ 0 ≤ (482 + (3 * (M37 8 0 1 481))) + 1 ∧ (482 + (3 * (M37 8 0 1 481))) + 1 < 500 ∧ ∀ M46 : Mem, M46 = wr (wr M37 8 0 1 (482 + (3 * (M37 8 0 1 481))) v1) 8 0 1 ((482 + (3 * (M37 8 0 1 481))) + 1) v2 → 0 ≤ (482 + (3 * (M37 8 0 1 481))) + 2 ∧ (482 + (3 * (M37 8 0 1 481))) + 2 < 500 ∧ ∀ M52 : Mem, M52 = wr (wr M46 8 0 1 ((482 + (3 * (M37 8 0 1 481))) + 2) v3) 8 0 1 481 (((wr M46 8 0 1 ((482 + (3 * (M37 8 0 1 481))) + 2) v3) 8 0 1 481) + 1) → Call G 0 0 zX12_remembers [rr G 8 0 0] M52 (kV (fun M55 => K [iv ((M55 8 0 1 481) - 1)] M55)) noX)) noX) ∧ ((M21 8 0 1 481) = 6 → K [iv 0] (wr M21 8 0 0 7 3))))))) noX)))) noX)))) noX) : Call G 2 0 zX12_block [rr G 8 0 0, iv v1, iv v2, iv v3] M K X := by
  refine call_intro (lv := [(0, rr G 8 0 0), (1, iv v1), (2, iv v2), (3, iv v3)]) (by decide) rfl (Nat.le_of_ble_eq_true rfl) rfl ?_
  refine ev_aload_n (j := 0) dX12_block_0 rfl rfl ?_
  refine ev_iload_n (j := 1) dX12_block_1 rfl rfl ?_
  refine ev_callSI (As := [iv v1]) (st := [rr G 8 0 0]) mfX12_isSection mlX12_136 dX12_block_2 rfl rfl (by decide) (by decide) (by decide) (Nat.le_of_ble_eq_true rfl) (fun _ _ z => z.elim) h (fun x3 M1 h2 => ?_)
  obtain ⟨s4, h5⟩ := h2
  obtain ⟨h6, h7⟩ := h5
  refine ev_if_eq 55 dX12_block_5 (by decide) s4 (fun c8 => ?_) (fun c8 => ?_)
  · have h9 := h6 c8
    refine ev_iconst dX12_block_55 ?_
    refine ev_put fwX12_84 dX12_block_56 dm8_0 en8_0 rfl rfl rfl (Nat.le_of_ble_eq_true rfl) ?_
    refine ev_aload_n (j := 0) dX12_block_59 rfl rfl ?_
    refine ev_get frX12_84 dX12_block_60 dm8_0 en8_0 rfl ?_
    refine ev_topI (b := 1) rfl ?_
    refine ev_if_le 68 dX12_block_63 (by decide) ⟨by decide, by decide⟩ (fun c9 => absurd c9 (by decide)) (fun _ => ?_)
    refine ev_iconst dX12_block_66 ?_
    exact ev_iret dX12_block_67 (by decide) rfl h9
  · have h10 := h7 c8
    refine ev_iload_n (j := 2) dX12_block_8 rfl rfl ?_
    refine ev_iconst dX12_block_9 ?_
    refine ev_sipush dX12_block_10 (by decide) ?_
    refine ev_callSI (As := [iv v2, iv 0, iv 2000]) (st := [rr G 8 0 0]) mfX12_in mlX12_87 dX12_block_13 rfl rfl (by decide) (by decide) (by decide) (Nat.le_of_ble_eq_true rfl) (fun _ _ z => z.elim) h10 (fun x13 M11 h12 => ?_)
    obtain ⟨s14, h15⟩ := h12
    obtain ⟨h16, h17⟩ := h15
    refine ev_if_eq 51 dX12_block_16 (by decide) s14 (fun c18 => ?_) (fun c18 => ?_)
    · have h19 := h16 c18
      refine ev_iconst dX12_block_51 ?_
      refine ev_goto 56 dX12_block_52 (by decide) ?_
      refine ev_put fwX12_84 dX12_block_56 dm8_0 en8_0 rfl rfl rfl (Nat.le_of_ble_eq_true rfl) ?_
      refine ev_aload_n (j := 0) dX12_block_59 rfl rfl ?_
      refine ev_get frX12_84 dX12_block_60 dm8_0 en8_0 rfl ?_
      refine ev_topI (b := 2) rfl ?_
      refine ev_if_le 68 dX12_block_63 (by decide) ⟨by decide, by decide⟩ (fun c9 => absurd c9 (by decide)) (fun _ => ?_)
      refine ev_iconst dX12_block_66 ?_
      exact ev_iret dX12_block_67 (by decide) rfl h19
    · have h20 := h17 c18
      refine ev_iload_n (j := 3) dX12_block_19 rfl rfl ?_
      refine ev_iload_n (j := 2) dX12_block_20 rfl rfl ?_
      refine ev_sipush dX12_block_21 (by decide) ?_
      refine ev_callSI (As := [iv v3, iv v2, iv 2000]) (st := [rr G 8 0 0]) mfX12_in mlX12_87 dX12_block_24 rfl rfl (by decide) (by decide) (by decide) (Nat.le_of_ble_eq_true rfl) (fun _ _ z => z.elim) h20 (fun x23 M21 h22 => ?_)
      obtain ⟨s24, h25⟩ := h22
      obtain ⟨h26, h27⟩ := h25
      refine ev_if_eq 51 dX12_block_27 (by decide) s24 (fun c28 => ?_) (fun c28 => ?_)
      · have h29 := h26 c28
        refine ev_iconst dX12_block_51 ?_
        refine ev_goto 56 dX12_block_52 (by decide) ?_
        refine ev_put fwX12_84 dX12_block_56 dm8_0 en8_0 rfl rfl rfl (Nat.le_of_ble_eq_true rfl) ?_
        refine ev_aload_n (j := 0) dX12_block_59 rfl rfl ?_
        refine ev_get frX12_84 dX12_block_60 dm8_0 en8_0 rfl ?_
        refine ev_topI (b := 2) rfl ?_
        refine ev_if_le 68 dX12_block_63 (by decide) ⟨by decide, by decide⟩ (fun c9 => absurd c9 (by decide)) (fun _ => ?_)
        refine ev_iconst dX12_block_66 ?_
        exact ev_iret dX12_block_67 (by decide) rfl h29
      · have h30 := h27 c28
        refine ev_aload_n (j := 0) dX12_block_30 rfl rfl ?_
        refine ev_get frX12_7 dX12_block_31 dm8_0 en8_0 rfl ?_
        refine ev_sipush dX12_block_34 (by decide) ?_
        refine ev_iald dX12_block_37 dm8_1 ar8_1 (by decide) (by decide) (by decide) ?_
        refine ev_bipush dX12_block_38 (by decide) ?_
        obtain ⟨s31, h32⟩ := h30
        obtain ⟨h33, h34⟩ := h32
        refine ev_icmp_ne 47 dX12_block_40 (by decide) s31 ⟨by decide, by decide⟩ (fun c35 => ?_) (fun c35 => ?_)
        · have h36 := h33 c35
          refine ev_iconst dX12_block_47 ?_
          refine ev_goto 56 dX12_block_48 (by decide) ?_
          refine ev_put fwX12_84 dX12_block_56 dm8_0 en8_0 rfl rfl rfl (Nat.le_of_ble_eq_true rfl) ?_
          refine ev_aload_n (j := 0) dX12_block_59 rfl rfl ?_
          refine ev_get frX12_84 dX12_block_60 dm8_0 en8_0 rfl ?_
          refine ev_topI (b := 0) rfl ?_
          refine ev_if_le 68 dX12_block_63 (by decide) ⟨by decide, by decide⟩ (fun _ => ?_) (fun c9 => absurd c9 (by decide))
          refine ev_aload_n (j := 0) dX12_block_68 rfl rfl ?_
          refine ev_callVV (As := []) (st := []) mfX12_begins mlX12_139 dX12_block_69 rfl dm8_0 en8_0 rfl rfl rfl (by decide) (by decide) (by decide) (Nat.le_of_ble_eq_true rfl) (fun _ _ z => z.elim) h36 (fun M37 h38 => ?_)
          refine ev_sipush dX12_block_72 (by decide) ?_
          refine ev_iconst dX12_block_75 ?_
          refine ev_aload_n (j := 0) dX12_block_76 rfl rfl ?_
          refine ev_get frX12_7 dX12_block_77 dm8_0 en8_0 rfl ?_
          refine ev_sipush dX12_block_80 (by decide) ?_
          refine ev_iald dX12_block_83 dm8_1 ar8_1 (by decide) (by decide) (by decide) ?_
          refine ev_imul dX12_block_84 ?_
          refine ev_iadd dX12_block_85 ?_
          refine ev_istore dX12_block_86 (by decide) rfl ?_
          refine ev_aload_n (j := 1) dX12_block_88 rfl rfl ?_
          refine ev_get frX12_7 dX12_block_89 dm8_0 en8_0 rfl ?_
          refine ev_iload (j := 0) dX12_block_92 rfl ?_
          refine ev_iload_n (j := 2) dX12_block_94 rfl rfl ?_
          obtain ⟨s40, s41, h42⟩ := h38
          refine ev_iast dX12_block_95 dm8_1 ar8_1 (by decide) s40 s41 ?_
          refine ev_aload_n (j := 1) dX12_block_96 rfl rfl ?_
          refine ev_get frX12_7 dX12_block_97 dm8_0 en8_0 rfl ?_
          refine ev_iload (j := 0) dX12_block_100 rfl ?_
          refine ev_iconst dX12_block_102 ?_
          refine ev_iadd dX12_block_103 ?_
          refine ev_iload_n (j := 3) dX12_block_104 rfl rfl ?_
          obtain ⟨s43, s44, h45⟩ := h42
          refine ev_iast dX12_block_105 dm8_1 ar8_1 (by decide) s43 s44 ?_
          obtain ⟨M46, e48⟩ : ∃ M46 : Mem, M46 = wr (wr M37 8 0 1 (482 + (3 * (M37 8 0 1 481))) v1) 8 0 1 ((482 + (3 * (M37 8 0 1 481))) + 1) v2 := ⟨_, rfl⟩
          have h47 := h45 _ e48
          refine ev_mem e48 ?_
          refine ev_aload_n (j := 1) dX12_block_106 rfl rfl ?_
          refine ev_get frX12_7 dX12_block_107 dm8_0 en8_0 rfl ?_
          refine ev_iload (j := 0) dX12_block_110 rfl ?_
          refine ev_iconst dX12_block_112 ?_
          refine ev_iadd dX12_block_113 ?_
          refine ev_iload_n (j := 4) dX12_block_114 rfl rfl ?_
          obtain ⟨s49, s50, h51⟩ := h47
          refine ev_iast dX12_block_115 dm8_1 ar8_1 (by decide) s49 s50 ?_
          refine ev_aload_n (j := 1) dX12_block_116 rfl rfl ?_
          refine ev_get frX12_7 dX12_block_117 dm8_0 en8_0 rfl ?_
          refine ev_sipush dX12_block_120 (by decide) ?_
          refine ev_dup2 dX12_block_123 rfl rfl ?_
          refine ev_iald dX12_block_124 dm8_1 ar8_1 (by decide) (by decide) (by decide) ?_
          refine ev_iconst dX12_block_125 ?_
          refine ev_iadd dX12_block_126 ?_
          refine ev_iast dX12_block_127 dm8_1 ar8_1 (by decide) (by decide) (by decide) ?_
          obtain ⟨M52, e54⟩ : ∃ M52 : Mem, M52 = wr (wr M46 8 0 1 ((482 + (3 * (M37 8 0 1 481))) + 2) v3) 8 0 1 481 (((wr M46 8 0 1 ((482 + (3 * (M37 8 0 1 481))) + 2) v3) 8 0 1 481) + 1) := ⟨_, rfl⟩
          have h53 := h51 _ e54
          refine ev_mem e54 ?_
          refine ev_aload_n (j := 1) dX12_block_128 rfl rfl ?_
          refine ev_callVV (As := []) (st := []) mfX12_remembers mlX12_102 dX12_block_129 rfl dm8_0 en8_0 rfl rfl rfl (by decide) (by decide) (by decide) (Nat.le_of_ble_eq_true rfl) (fun _ _ z => z.elim) h53 (fun M55 h56 => ?_)
          refine ev_aload_n (j := 1) dX12_block_132 rfl rfl ?_
          refine ev_get frX12_7 dX12_block_133 dm8_0 en8_0 rfl ?_
          refine ev_sipush dX12_block_136 (by decide) ?_
          refine ev_iald dX12_block_139 dm8_1 ar8_1 (by decide) (by decide) (by decide) ?_
          refine ev_iconst dX12_block_140 ?_
          refine ev_isub dX12_block_141 ?_
          exact ev_iret dX12_block_142 (by decide) rfl h56
        · have h58 := h34 c35
          refine ev_iconst dX12_block_43 ?_
          refine ev_goto 56 dX12_block_44 (by decide) ?_
          refine ev_put fwX12_84 dX12_block_56 dm8_0 en8_0 rfl rfl rfl (Nat.le_of_ble_eq_true rfl) ?_
          refine ev_aload_n (j := 0) dX12_block_59 rfl rfl ?_
          refine ev_get frX12_84 dX12_block_60 dm8_0 en8_0 rfl ?_
          refine ev_topI (b := 3) rfl ?_
          refine ev_if_le 68 dX12_block_63 (by decide) ⟨by decide, by decide⟩ (fun c9 => absurd c9 (by decide)) (fun _ => ?_)
          refine ev_iconst dX12_block_66 ?_
          exact ev_iret dX12_block_67 (by decide) rfl h58
def eX12_blockOn (G : GT) (K : List Value → Mem → Prop) (X : String → Mem → Prop) (pc : Nat) (lv : List (Nat × Value)) (st : List Value) (M : Mem) : Prop := Ex G zX12_blockOn 1 0 K X 0 pc lv st M
set_option maxRecDepth 20000 in
set_option maxHeartbeats 4000000 in
theorem bX12_blockOn {G : GT} {K : List Value → Mem → Prop} {X : String → Mem → Prop} {M : Mem} {v1 v2 : Int} (h : eX12_blockOn G K X 2 [(0, rr G 8 0 0), (1, iv v1), (2, iv v2), (3, iv 0)] [] M) : Call G 1 0 zX12_blockOn [rr G 8 0 0, iv v1, iv v2] M K X := by
  refine call_intro (lv := [(0, rr G 8 0 0), (1, iv v1), (2, iv v2)]) (by decide) rfl (Nat.le_of_ble_eq_true rfl) rfl ?_
  refine ev_iconst dX12_blockOn_0 ?_
  refine ev_istore_n dX12_blockOn_1 rfl (by decide) rfl ?_
  exact ev_sub [1, 2, 3, 0] rfl h
set_option maxRecDepth 20000 in
set_option maxHeartbeats 4000000 in
theorem bX12_blockOn_2 {G : GT} {K : List Value → Mem → Prop} {X : String → Mem → Prop} {M : Mem} {v1 v2 v3 : Int} (h : I32 v3 ∧ I32 (M 8 0 1 481) ∧ ((¬ v3 < (M 8 0 1 481) → K [iv (-1)] M) ∧ (v3 < (M 8 0 1 481) → 0 ≤ 482 + (3 * v3) ∧ 482 + (3 * v3) < 500 ∧ I32 (M 8 0 1 (482 + (3 * v3))) ∧ I32 v1 ∧ ((¬ (M 8 0 1 (482 + (3 * v3))) = v1 → eX12_blockOn G K X 2 [(0, rr G 8 0 0), (1, iv v1), (2, iv v2), (3, iv (v3 + 1))] [] M) ∧ ((M 8 0 1 (482 + (3 * v3))) = v1 → 0 ≤ (482 + (3 * v3)) + 1 ∧ (482 + (3 * v3)) + 1 < 500 ∧ 0 ≤ (482 + (3 * v3)) + 2 ∧ (482 + (3 * v3)) + 2 < 500 ∧ Call G 0 0 zX12_in [iv v2, iv (M 8 0 1 ((482 + (3 * v3)) + 1)), iv (M 8 0 1 ((482 + (3 * v3)) + 2))] M (kI (fun x28 M26 => I32 x28 ∧ ((x28 = 0 → eX12_blockOn G K X 2 [(0, rr G 8 0 0), (1, iv v1), (2, iv v2), (3, iv (v3 + 1))] [] M26) ∧ (¬ x28 = 0 → K [iv v3] M26)))) noX))))) : eX12_blockOn G K X 2 [(0, rr G 8 0 0), (1, iv v1), (2, iv v2), (3, iv v3)] [] M := by
  show Ex G zX12_blockOn 1 0 K X 0 2 [(0, rr G 8 0 0), (1, iv v1), (2, iv v2), (3, iv v3)] [] M
  refine ev_iload_n (j := 3) dX12_blockOn_2 rfl rfl ?_
  refine ev_aload_n (j := 0) dX12_blockOn_3 rfl rfl ?_
  refine ev_get frX12_7 dX12_blockOn_4 dm8_0 en8_0 rfl ?_
  refine ev_sipush dX12_blockOn_7 (by decide) ?_
  refine ev_iald dX12_blockOn_10 dm8_1 ar8_1 (by decide) (by decide) (by decide) ?_
  obtain ⟨s1, s2, h3⟩ := h
  obtain ⟨h4, h5⟩ := h3
  refine ev_icmp_ge 73 dX12_blockOn_11 (by decide) s1 s2 (fun c6 => ?_) (fun c6 => ?_)
  · have h7 := h4 c6
    refine ev_iconst dX12_blockOn_73 ?_
    exact ev_iret dX12_blockOn_74 (by decide) rfl h7
  · have h8 := h5 c6
    refine ev_aload_n (j := 0) dX12_blockOn_14 rfl rfl ?_
    refine ev_get frX12_7 dX12_blockOn_15 dm8_0 en8_0 rfl ?_
    refine ev_sipush dX12_blockOn_18 (by decide) ?_
    refine ev_iconst dX12_blockOn_21 ?_
    refine ev_iload_n (j := 3) dX12_blockOn_22 rfl rfl ?_
    refine ev_imul dX12_blockOn_23 ?_
    refine ev_iadd dX12_blockOn_24 ?_
    obtain ⟨s9, s10, h11⟩ := h8
    refine ev_iald dX12_blockOn_25 dm8_1 ar8_1 (by decide) s9 s10 ?_
    refine ev_iload_n (j := 1) dX12_blockOn_26 rfl rfl ?_
    obtain ⟨s12, s13, h14⟩ := h11
    obtain ⟨h15, h16⟩ := h14
    refine ev_icmp_ne 67 dX12_blockOn_27 (by decide) s12 s13 (fun c17 => ?_) (fun c17 => ?_)
    · have h18 := h15 c17
      refine ev_iinc (j := 3) dX12_blockOn_67 rfl (by decide) rfl ?_
      refine ev_goto 2 dX12_blockOn_70 (by decide) ?_
      exact ev_sub [1, 2, 3, 0] rfl h18
    · have h19 := h16 c17
      refine ev_iload_n (j := 2) dX12_blockOn_30 rfl rfl ?_
      refine ev_aload_n (j := 0) dX12_blockOn_31 rfl rfl ?_
      refine ev_get frX12_7 dX12_blockOn_32 dm8_0 en8_0 rfl ?_
      refine ev_sipush dX12_blockOn_35 (by decide) ?_
      refine ev_iconst dX12_blockOn_38 ?_
      refine ev_iload_n (j := 3) dX12_blockOn_39 rfl rfl ?_
      refine ev_imul dX12_blockOn_40 ?_
      refine ev_iadd dX12_blockOn_41 ?_
      refine ev_iconst dX12_blockOn_42 ?_
      refine ev_iadd dX12_blockOn_43 ?_
      obtain ⟨s20, s21, h22⟩ := h19
      refine ev_iald dX12_blockOn_44 dm8_1 ar8_1 (by decide) s20 s21 ?_
      refine ev_aload_n (j := 0) dX12_blockOn_45 rfl rfl ?_
      refine ev_get frX12_7 dX12_blockOn_46 dm8_0 en8_0 rfl ?_
      refine ev_sipush dX12_blockOn_49 (by decide) ?_
      refine ev_iconst dX12_blockOn_52 ?_
      refine ev_iload_n (j := 3) dX12_blockOn_53 rfl rfl ?_
      refine ev_imul dX12_blockOn_54 ?_
      refine ev_iadd dX12_blockOn_55 ?_
      refine ev_iconst dX12_blockOn_56 ?_
      refine ev_iadd dX12_blockOn_57 ?_
      obtain ⟨s23, s24, h25⟩ := h22
      refine ev_iald dX12_blockOn_58 dm8_1 ar8_1 (by decide) s23 s24 ?_
      refine ev_callSI (As := [iv v2, iv (M 8 0 1 ((482 + (3 * v3)) + 1)), iv (M 8 0 1 ((482 + (3 * v3)) + 2))]) (st := []) mfX12_in mlX12_87 dX12_blockOn_59 rfl rfl (by decide) (by decide) (by decide) (Nat.le_of_ble_eq_true rfl) (fun _ _ z => z.elim) h25 (fun x28 M26 h27 => ?_)
      obtain ⟨s29, h30⟩ := h27
      obtain ⟨h31, h32⟩ := h30
      refine ev_if_eq 67 dX12_blockOn_62 (by decide) s29 (fun c33 => ?_) (fun c33 => ?_)
      · have h34 := h31 c33
        refine ev_iinc (j := 3) dX12_blockOn_67 rfl (by decide) rfl ?_
        refine ev_goto 2 dX12_blockOn_70 (by decide) ?_
        exact ev_sub [1, 2, 3, 0] rfl h34
      · have h35 := h32 c33
        refine ev_iload_n (j := 3) dX12_blockOn_65 rfl rfl ?_
        exact ev_iret dX12_blockOn_66 (by decide) rfl h35
def eX12_boxed (G : GT) (K : List Value → Mem → Prop) (X : String → Mem → Prop) (pc : Nat) (lv : List (Nat × Value)) (st : List Value) (M : Mem) : Prop := Ex G zX12_boxed 1 0 K X 0 pc lv st M
set_option maxRecDepth 20000 in
set_option maxHeartbeats 4000000 in
theorem bX12_boxed {G : GT} {K : List Value → Mem → Prop} {X : String → Mem → Prop} {M : Mem} {v1 : Int} (h : eX12_boxed G K X 4 [(0, rr G 8 0 0), (1, iv v1), (2, iv (v1 + 1))] [] M) : Call G 1 0 zX12_boxed [rr G 8 0 0, iv v1] M K X := by
  refine call_intro (lv := [(0, rr G 8 0 0), (1, iv v1)]) (by decide) rfl (Nat.le_of_ble_eq_true rfl) rfl ?_
  refine ev_iload_n (j := 1) dX12_boxed_0 rfl rfl ?_
  refine ev_iconst dX12_boxed_1 ?_
  refine ev_iadd dX12_boxed_2 ?_
  refine ev_istore_n dX12_boxed_3 rfl (by decide) rfl ?_
  exact ev_sub [1, 2, 0] rfl h
set_option maxRecDepth 20000 in
set_option maxHeartbeats 4000000 in
theorem bX12_boxed_4 {G : GT} {K : List Value → Mem → Prop} {X : String → Mem → Prop} {M : Mem} {v1 v2 : Int} (h : I32 v2 ∧ I32 (M 8 0 1 160) ∧ ((¬ v2 < (M 8 0 1 160) → K [iv 0] M) ∧ (v2 < (M 8 0 1 160) → 0 ≤ 171 + v1 ∧ 171 + v1 < 500 ∧ I32 (M 8 0 1 (171 + v1)) ∧ ((¬ 0 < (M 8 0 1 (171 + v1)) → K [iv 0] M) ∧ (0 < (M 8 0 1 (171 + v1)) → 0 ≤ 161 + v2 ∧ 161 + v2 < 500 ∧ 0 ≤ 161 + v1 ∧ 161 + v1 < 500 ∧ I32 (M 8 0 1 (161 + v2)) ∧ I32 (M 8 0 1 (161 + v1)) ∧ ((¬ (M 8 0 1 (161 + v2)) = (M 8 0 1 (161 + v1)) → eX12_boxed G K X 4 [(0, rr G 8 0 0), (1, iv v1), (2, iv (v2 + 1))] [] M) ∧ ((M 8 0 1 (161 + v2)) = (M 8 0 1 (161 + v1)) → 0 ≤ 171 + v2 ∧ 171 + v2 < 500 ∧ I32 (M 8 0 1 (171 + v2)) ∧ (((M 8 0 1 (171 + v2)) = 0 → K [iv 1] M) ∧ (¬ (M 8 0 1 (171 + v2)) = 0 → Call G 0 0 zX12_dutyAt [rr G 8 0 0, iv v2, iv 0] M (kI (fun x45 M43 => Call G 0 0 zX12_departs [rr G 8 0 0, iv x45] M43 (kI (fun x48 M46 => Call G 0 0 zX12_dutyAt [rr G 8 0 0, iv v1, iv 0] M46 (kI (fun x51 M49 => Call G 0 0 zX12_departs [rr G 8 0 0, iv x51] M49 (kI (fun x54 M52 => I32 x48 ∧ I32 x54 ∧ ((¬ x54 < x48 → eX12_boxed G K X 4 [(0, rr G 8 0 0), (1, iv v1), (2, iv (v2 + 1))] [] M52) ∧ (x54 < x48 → K [iv 1] M52)))) noX)) noX)) noX)) noX))))))))) : eX12_boxed G K X 4 [(0, rr G 8 0 0), (1, iv v1), (2, iv v2)] [] M := by
  show Ex G zX12_boxed 1 0 K X 0 4 [(0, rr G 8 0 0), (1, iv v1), (2, iv v2)] [] M
  refine ev_iload_n (j := 2) dX12_boxed_4 rfl rfl ?_
  refine ev_aload_n (j := 0) dX12_boxed_5 rfl rfl ?_
  refine ev_get frX12_7 dX12_boxed_6 dm8_0 en8_0 rfl ?_
  refine ev_sipush dX12_boxed_9 (by decide) ?_
  refine ev_iald dX12_boxed_12 dm8_1 ar8_1 (by decide) (by decide) (by decide) ?_
  obtain ⟨s1, s2, h3⟩ := h
  obtain ⟨h4, h5⟩ := h3
  refine ev_icmp_ge 96 dX12_boxed_13 (by decide) s1 s2 (fun c6 => ?_) (fun c6 => ?_)
  · have h7 := h4 c6
    refine ev_iconst dX12_boxed_96 ?_
    exact ev_iret dX12_boxed_97 (by decide) rfl h7
  · have h8 := h5 c6
    refine ev_aload_n (j := 0) dX12_boxed_16 rfl rfl ?_
    refine ev_get frX12_7 dX12_boxed_17 dm8_0 en8_0 rfl ?_
    refine ev_sipush dX12_boxed_20 (by decide) ?_
    refine ev_iload_n (j := 1) dX12_boxed_23 rfl rfl ?_
    refine ev_iadd dX12_boxed_24 ?_
    obtain ⟨s9, s10, h11⟩ := h8
    refine ev_iald dX12_boxed_25 dm8_1 ar8_1 (by decide) s9 s10 ?_
    obtain ⟨s12, h13⟩ := h11
    obtain ⟨h14, h15⟩ := h13
    refine ev_if_le 96 dX12_boxed_26 (by decide) s12 (fun c16 => ?_) (fun c16 => ?_)
    · have h17 := h14 c16
      refine ev_iconst dX12_boxed_96 ?_
      exact ev_iret dX12_boxed_97 (by decide) rfl h17
    · have h18 := h15 c16
      refine ev_aload_n (j := 0) dX12_boxed_29 rfl rfl ?_
      refine ev_get frX12_7 dX12_boxed_30 dm8_0 en8_0 rfl ?_
      refine ev_sipush dX12_boxed_33 (by decide) ?_
      refine ev_iload_n (j := 2) dX12_boxed_36 rfl rfl ?_
      refine ev_iadd dX12_boxed_37 ?_
      obtain ⟨s19, s20, h21⟩ := h18
      refine ev_iald dX12_boxed_38 dm8_1 ar8_1 (by decide) s19 s20 ?_
      refine ev_aload_n (j := 0) dX12_boxed_39 rfl rfl ?_
      refine ev_get frX12_7 dX12_boxed_40 dm8_0 en8_0 rfl ?_
      refine ev_sipush dX12_boxed_43 (by decide) ?_
      refine ev_iload_n (j := 1) dX12_boxed_46 rfl rfl ?_
      refine ev_iadd dX12_boxed_47 ?_
      obtain ⟨s22, s23, h24⟩ := h21
      refine ev_iald dX12_boxed_48 dm8_1 ar8_1 (by decide) s22 s23 ?_
      obtain ⟨s25, s26, h27⟩ := h24
      obtain ⟨h28, h29⟩ := h27
      refine ev_icmp_ne 90 dX12_boxed_49 (by decide) s25 s26 (fun c30 => ?_) (fun c30 => ?_)
      · have h31 := h28 c30
        refine ev_iinc (j := 2) dX12_boxed_90 rfl (by decide) rfl ?_
        refine ev_goto 4 dX12_boxed_93 (by decide) ?_
        exact ev_sub [1, 2, 0] rfl h31
      · have h32 := h29 c30
        refine ev_aload_n (j := 0) dX12_boxed_52 rfl rfl ?_
        refine ev_get frX12_7 dX12_boxed_53 dm8_0 en8_0 rfl ?_
        refine ev_sipush dX12_boxed_56 (by decide) ?_
        refine ev_iload_n (j := 2) dX12_boxed_59 rfl rfl ?_
        refine ev_iadd dX12_boxed_60 ?_
        obtain ⟨s33, s34, h35⟩ := h32
        refine ev_iald dX12_boxed_61 dm8_1 ar8_1 (by decide) s33 s34 ?_
        obtain ⟨s36, h37⟩ := h35
        obtain ⟨h38, h39⟩ := h37
        refine ev_if_eq 88 dX12_boxed_62 (by decide) s36 (fun c40 => ?_) (fun c40 => ?_)
        · have h41 := h38 c40
          refine ev_iconst dX12_boxed_88 ?_
          exact ev_iret dX12_boxed_89 (by decide) rfl h41
        · have h42 := h39 c40
          refine ev_aload_n (j := 0) dX12_boxed_65 rfl rfl ?_
          refine ev_aload_n (j := 0) dX12_boxed_66 rfl rfl ?_
          refine ev_iload_n (j := 2) dX12_boxed_67 rfl rfl ?_
          refine ev_iconst dX12_boxed_68 ?_
          refine ev_callVI (As := [iv v2, iv 0]) (st := [rr G 8 0 0]) mfX12_dutyAt mlX12_126 dX12_boxed_69 rfl dm8_0 en8_0 rfl rfl rfl (by decide) (by decide) (by decide) (Nat.le_of_ble_eq_true rfl) (fun _ _ z => z.elim) h42 (fun x45 M43 h44 => ?_)
          refine ev_callVI (As := [iv x45]) (st := []) mfX12_departs mlX12_109 dX12_boxed_72 rfl dm8_0 en8_0 rfl rfl rfl (by decide) (by decide) (by decide) (Nat.le_of_ble_eq_true rfl) (fun _ _ z => z.elim) h44 (fun x48 M46 h47 => ?_)
          refine ev_aload_n (j := 0) dX12_boxed_75 rfl rfl ?_
          refine ev_aload_n (j := 0) dX12_boxed_76 rfl rfl ?_
          refine ev_iload_n (j := 1) dX12_boxed_77 rfl rfl ?_
          refine ev_iconst dX12_boxed_78 ?_
          refine ev_callVI (As := [iv v1, iv 0]) (st := [rr G 8 0 0, iv x48]) mfX12_dutyAt mlX12_126 dX12_boxed_79 rfl dm8_0 en8_0 rfl rfl rfl (by decide) (by decide) (by decide) (Nat.le_of_ble_eq_true rfl) (fun _ _ z => z.elim) h47 (fun x51 M49 h50 => ?_)
          refine ev_callVI (As := [iv x51]) (st := [iv x48]) mfX12_departs mlX12_109 dX12_boxed_82 rfl dm8_0 en8_0 rfl rfl rfl (by decide) (by decide) (by decide) (Nat.le_of_ble_eq_true rfl) (fun _ _ z => z.elim) h50 (fun x54 M52 h53 => ?_)
          obtain ⟨s55, s56, h57⟩ := h53
          obtain ⟨h58, h59⟩ := h57
          refine ev_icmp_le 90 dX12_boxed_85 (by decide) s55 s56 (fun c60 => ?_) (fun c60 => ?_)
          · have h61 := h58 c60
            refine ev_iinc (j := 2) dX12_boxed_90 rfl (by decide) rfl ?_
            refine ev_goto 4 dX12_boxed_93 (by decide) ?_
            exact ev_sub [1, 2, 0] rfl h61
          · have h62 := h59 c60
            refine ev_iconst dX12_boxed_88 ?_
            exact ev_iret dX12_boxed_89 (by decide) rfl h62
def eX12_bunches (G : GT) (K : List Value → Mem → Prop) (X : String → Mem → Prop) (pc : Nat) (lv : List (Nat × Value)) (st : List Value) (M : Mem) : Prop := Ex G zX12_bunches 4 0 K X 0 pc lv st M
set_option maxRecDepth 20000 in
set_option maxHeartbeats 4000000 in
theorem bX12_bunches {G : GT} {K : List Value → Mem → Prop} {X : String → Mem → Prop} {M : Mem} {v1 v2 : Int} (h : Call G 0 0 zX12_in [iv v1, iv 0, iv 1] M (kI (fun x3 M1 => I32 x3 ∧ ((x3 = 0 → K [iv 0] (wr M1 8 0 0 7 1)) ∧ (¬ x3 = 0 → Call G 1 0 zX12_isStop [iv v2] M1 (kI (fun x13 M11 => I32 x13 ∧ ((x13 = 0 → K [iv 0] (wr M11 8 0 0 7 1)) ∧ (¬ x13 = 0 → Call G 3 0 zX12_passages [rr G 8 0 0, iv v1, iv v2] (wr M11 8 0 0 7 0) (kV (fun M21 => Call G 0 0 zX12_close [rr G 8 0 0] M21 (kI (fun x26 M24 => K [iv x26] M24)) noX)) noX)))) noX)))) noX) : Call G 4 0 zX12_bunches [rr G 8 0 0, iv v1, iv v2] M K X := by
  refine call_intro (lv := [(0, rr G 8 0 0), (1, iv v1), (2, iv v2)]) (by decide) rfl (Nat.le_of_ble_eq_true rfl) rfl ?_
  refine ev_aload_n (j := 0) dX12_bunches_0 rfl rfl ?_
  refine ev_iload_n (j := 1) dX12_bunches_1 rfl rfl ?_
  refine ev_iconst dX12_bunches_2 ?_
  refine ev_iconst dX12_bunches_3 ?_
  refine ev_callSI (As := [iv v1, iv 0, iv 1]) (st := [rr G 8 0 0]) mfX12_in mlX12_87 dX12_bunches_4 rfl rfl (by decide) (by decide) (by decide) (Nat.le_of_ble_eq_true rfl) (fun _ _ z => z.elim) h (fun x3 M1 h2 => ?_)
  obtain ⟨s4, h5⟩ := h2
  obtain ⟨h6, h7⟩ := h5
  refine ev_if_eq 21 dX12_bunches_7 (by decide) s4 (fun c8 => ?_) (fun c8 => ?_)
  · have h9 := h6 c8
    refine ev_iconst dX12_bunches_21 ?_
    refine ev_put fwX12_84 dX12_bunches_22 dm8_0 en8_0 rfl rfl rfl (Nat.le_of_ble_eq_true rfl) ?_
    refine ev_aload_n (j := 0) dX12_bunches_25 rfl rfl ?_
    refine ev_get frX12_84 dX12_bunches_26 dm8_0 en8_0 rfl ?_
    refine ev_topI (b := 1) rfl ?_
    refine ev_if_le 34 dX12_bunches_29 (by decide) ⟨by decide, by decide⟩ (fun c9 => absurd c9 (by decide)) (fun _ => ?_)
    refine ev_iconst dX12_bunches_32 ?_
    exact ev_iret dX12_bunches_33 (by decide) rfl h9
  · have h10 := h7 c8
    refine ev_iload_n (j := 2) dX12_bunches_10 rfl rfl ?_
    refine ev_callSI (As := [iv v2]) (st := [rr G 8 0 0]) mfX12_isStop mlX12_155 dX12_bunches_11 rfl rfl (by decide) (by decide) (by decide) (Nat.le_of_ble_eq_true rfl) (fun _ _ z => z.elim) h10 (fun x13 M11 h12 => ?_)
    obtain ⟨s14, h15⟩ := h12
    obtain ⟨h16, h17⟩ := h15
    refine ev_if_eq 21 dX12_bunches_14 (by decide) s14 (fun c18 => ?_) (fun c18 => ?_)
    · have h19 := h16 c18
      refine ev_iconst dX12_bunches_21 ?_
      refine ev_put fwX12_84 dX12_bunches_22 dm8_0 en8_0 rfl rfl rfl (Nat.le_of_ble_eq_true rfl) ?_
      refine ev_aload_n (j := 0) dX12_bunches_25 rfl rfl ?_
      refine ev_get frX12_84 dX12_bunches_26 dm8_0 en8_0 rfl ?_
      refine ev_topI (b := 1) rfl ?_
      refine ev_if_le 34 dX12_bunches_29 (by decide) ⟨by decide, by decide⟩ (fun c9 => absurd c9 (by decide)) (fun _ => ?_)
      refine ev_iconst dX12_bunches_32 ?_
      exact ev_iret dX12_bunches_33 (by decide) rfl h19
    · have h20 := h17 c18
      refine ev_iconst dX12_bunches_17 ?_
      refine ev_goto 22 dX12_bunches_18 (by decide) ?_
      refine ev_put fwX12_84 dX12_bunches_22 dm8_0 en8_0 rfl rfl rfl (Nat.le_of_ble_eq_true rfl) ?_
      refine ev_aload_n (j := 0) dX12_bunches_25 rfl rfl ?_
      refine ev_get frX12_84 dX12_bunches_26 dm8_0 en8_0 rfl ?_
      refine ev_topI (b := 0) rfl ?_
      refine ev_if_le 34 dX12_bunches_29 (by decide) ⟨by decide, by decide⟩ (fun _ => ?_) (fun c9 => absurd c9 (by decide))
      refine ev_aload_n (j := 0) dX12_bunches_34 rfl rfl ?_
      refine ev_iload_n (j := 1) dX12_bunches_35 rfl rfl ?_
      refine ev_iload_n (j := 2) dX12_bunches_36 rfl rfl ?_
      refine ev_callVV (As := [iv v1, iv v2]) (st := []) mfX12_passages mlX12_211 dX12_bunches_37 rfl dm8_0 en8_0 rfl rfl rfl (by decide) (by decide) (by decide) (Nat.le_of_ble_eq_true rfl) (fun _ _ z => z.elim) h20 (fun M21 h22 => ?_)
      refine ev_aload_n (j := 0) dX12_bunches_40 rfl rfl ?_
      refine ev_callVI (As := []) (st := []) mfX12_close mlX12_214 dX12_bunches_41 rfl dm8_0 en8_0 rfl rfl rfl (by decide) (by decide) (by decide) (Nat.le_of_ble_eq_true rfl) (fun _ _ z => z.elim) h22 (fun x26 M24 h25 => ?_)
      exact ev_iret dX12_bunches_44 (by decide) rfl h25
def eX12_byMatching (G : GT) (K : List Value → Mem → Prop) (X : String → Mem → Prop) (pc : Nat) (lv : List (Nat × Value)) (st : List Value) (M : Mem) : Prop := Ex G zX12_byMatching 41 0 K X 0 pc lv st M
set_option maxRecDepth 20000 in
set_option maxHeartbeats 4000000 in
theorem bX12_byMatching {G : GT} {K : List Value → Mem → Prop} {X : String → Mem → Prop} {M : Mem} (h : Call G 1 0 zX12_active [rr G 8 0 0] M (kI (fun x3 M1 => eX12_byMatching G K X 7 [(0, rr G 8 0 0), (1, iv x3), (2, iv 0)] [] M1)) noX) : Call G 41 0 zX12_byMatching [rr G 8 0 0] M K X := by
  refine call_intro (lv := [(0, rr G 8 0 0)]) (by decide) rfl (Nat.le_of_ble_eq_true rfl) rfl ?_
  refine ev_aload_n (j := 0) dX12_byMatching_0 rfl rfl ?_
  refine ev_callVI (As := []) (st := []) mfX12_active mlX12_188 dX12_byMatching_1 rfl dm8_0 en8_0 rfl rfl rfl (by decide) (by decide) (by decide) (Nat.le_of_ble_eq_true rfl) (fun _ _ z => z.elim) h (fun x3 M1 h2 => ?_)
  refine ev_istore_n dX12_byMatching_4 rfl (by decide) rfl ?_
  refine ev_iconst dX12_byMatching_5 ?_
  refine ev_istore_n dX12_byMatching_6 rfl (by decide) rfl ?_
  exact ev_sub [2, 1, 0] rfl h2
set_option maxRecDepth 20000 in
set_option maxHeartbeats 4000000 in
theorem bX12_byMatching_7 {G : GT} {K : List Value → Mem → Prop} {X : String → Mem → Prop} {M : Mem} {v1 v2 : Int} (h : I32 v2 ∧ I32 (M 8 0 1 37) ∧ ((¬ v2 < (M 8 0 1 37) → eX12_byMatching G K X 33 [(0, rr G 8 0 0), (1, iv v1), (2, iv 0)] [] M) ∧ (v2 < (M 8 0 1 37) → 0 ≤ v2 ∧ v2 < 30 ∧ eX12_byMatching G K X 7 [(0, rr G 8 0 0), (1, iv v1), (2, iv (v2 + 1))] [] (wr M 8 0 14 v2 (-1))))) : eX12_byMatching G K X 7 [(0, rr G 8 0 0), (1, iv v1), (2, iv v2)] [] M := by
  show Ex G zX12_byMatching 41 0 K X 0 7 [(0, rr G 8 0 0), (1, iv v1), (2, iv v2)] [] M
  refine ev_iload_n (j := 2) dX12_byMatching_7 rfl rfl ?_
  refine ev_aload_n (j := 0) dX12_byMatching_8 rfl rfl ?_
  refine ev_get frX12_7 dX12_byMatching_9 dm8_0 en8_0 rfl ?_
  refine ev_bipush dX12_byMatching_12 (by decide) ?_
  refine ev_iald dX12_byMatching_14 dm8_1 ar8_1 (by decide) (by decide) (by decide) ?_
  obtain ⟨s1, s2, h3⟩ := h
  obtain ⟨h4, h5⟩ := h3
  refine ev_icmp_ge 31 dX12_byMatching_15 (by decide) s1 s2 (fun c6 => ?_) (fun c6 => ?_)
  · have h7 := h4 c6
    refine ev_iconst dX12_byMatching_31 ?_
    refine ev_istore_n dX12_byMatching_32 rfl (by decide) rfl ?_
    exact ev_sub [1, 2, 0] rfl h7
  · have h8 := h5 c6
    refine ev_aload_n (j := 0) dX12_byMatching_18 rfl rfl ?_
    refine ev_get frX12_49 dX12_byMatching_19 dm8_0 en8_0 rfl ?_
    refine ev_iload_n (j := 2) dX12_byMatching_22 rfl rfl ?_
    refine ev_iconst dX12_byMatching_23 ?_
    obtain ⟨s9, s10, h11⟩ := h8
    refine ev_iast dX12_byMatching_24 dm8_14 ar8_14 (by decide) s9 s10 ?_
    refine ev_iinc (j := 2) dX12_byMatching_25 rfl (by decide) rfl ?_
    refine ev_goto 7 dX12_byMatching_28 (by decide) ?_
    exact ev_sub [1, 2, 0] rfl h11
set_option maxRecDepth 20000 in
set_option maxHeartbeats 4000000 in
theorem bX12_byMatching_33 {G : GT} {K : List Value → Mem → Prop} {X : String → Mem → Prop} {M : Mem} {v1 v2 : Int} (h : I32 v2 ∧ I32 (M 8 0 1 37) ∧ ((¬ v2 < (M 8 0 1 37) → K [iv v1] M) ∧ (v2 < (M 8 0 1 37) → eX12_byMatching G K X 46 [(0, rr G 8 0 0), (1, iv v1), (2, iv v2), (3, iv 0)] [] M))) : eX12_byMatching G K X 33 [(0, rr G 8 0 0), (1, iv v1), (2, iv v2)] [] M := by
  show Ex G zX12_byMatching 41 0 K X 0 33 [(0, rr G 8 0 0), (1, iv v1), (2, iv v2)] [] M
  refine ev_iload_n (j := 2) dX12_byMatching_33 rfl rfl ?_
  refine ev_aload_n (j := 0) dX12_byMatching_34 rfl rfl ?_
  refine ev_get frX12_7 dX12_byMatching_35 dm8_0 en8_0 rfl ?_
  refine ev_bipush dX12_byMatching_38 (by decide) ?_
  refine ev_iald dX12_byMatching_40 dm8_1 ar8_1 (by decide) (by decide) (by decide) ?_
  obtain ⟨s1, s2, h3⟩ := h
  obtain ⟨h4, h5⟩ := h3
  refine ev_icmp_ge 92 dX12_byMatching_41 (by decide) s1 s2 (fun c6 => ?_) (fun c6 => ?_)
  · have h7 := h4 c6
    refine ev_iload_n (j := 1) dX12_byMatching_92 rfl rfl ?_
    exact ev_iret dX12_byMatching_93 (by decide) rfl h7
  · have h8 := h5 c6
    refine ev_iconst dX12_byMatching_44 ?_
    refine ev_istore_n dX12_byMatching_45 rfl (by decide) rfl ?_
    exact ev_sub [1, 2, 3, 0] rfl h8
set_option maxRecDepth 20000 in
set_option maxHeartbeats 4000000 in
theorem bX12_byMatching_46 {G : GT} {K : List Value → Mem → Prop} {X : String → Mem → Prop} {M : Mem} {v1 v2 v3 : Int} (h : I32 v3 ∧ I32 (M 8 0 1 37) ∧ ((¬ v3 < (M 8 0 1 37) → Call G 40 0 zX12_finds [rr G 8 0 0, iv v2] M (kI (fun x10 M8 => I32 x10 ∧ ((x10 = 0 → eX12_byMatching G K X 33 [(0, rr G 8 0 0), (1, iv (v1 - 0)), (2, iv (v2 + 1))] [] M8) ∧ (¬ x10 = 0 → eX12_byMatching G K X 33 [(0, rr G 8 0 0), (1, iv (v1 - 1)), (2, iv (v2 + 1))] [] M8)))) noX) ∧ (v3 < (M 8 0 1 37) → 0 ≤ v3 ∧ v3 < 30 ∧ eX12_byMatching G K X 46 [(0, rr G 8 0 0), (1, iv v1), (2, iv v2), (3, iv (v3 + 1))] [] (wr M 8 0 15 v3 0)))) : eX12_byMatching G K X 46 [(0, rr G 8 0 0), (1, iv v1), (2, iv v2), (3, iv v3)] [] M := by
  show Ex G zX12_byMatching 41 0 K X 0 46 [(0, rr G 8 0 0), (1, iv v1), (2, iv v2), (3, iv v3)] [] M
  refine ev_iload_n (j := 3) dX12_byMatching_46 rfl rfl ?_
  refine ev_aload_n (j := 0) dX12_byMatching_47 rfl rfl ?_
  refine ev_get frX12_7 dX12_byMatching_48 dm8_0 en8_0 rfl ?_
  refine ev_bipush dX12_byMatching_51 (by decide) ?_
  refine ev_iald dX12_byMatching_53 dm8_1 ar8_1 (by decide) (by decide) (by decide) ?_
  obtain ⟨s1, s2, h3⟩ := h
  obtain ⟨h4, h5⟩ := h3
  refine ev_icmp_ge 70 dX12_byMatching_54 (by decide) s1 s2 (fun c6 => ?_) (fun c6 => ?_)
  · have h7 := h4 c6
    refine ev_iload_n (j := 1) dX12_byMatching_70 rfl rfl ?_
    refine ev_aload_n (j := 0) dX12_byMatching_71 rfl rfl ?_
    refine ev_iload_n (j := 2) dX12_byMatching_72 rfl rfl ?_
    refine ev_callVI (As := [iv v2]) (st := [iv v1]) mfX12_finds mlX12_301 dX12_byMatching_73 rfl dm8_0 en8_0 rfl rfl rfl (by decide) (by decide) (by decide) (Nat.le_of_ble_eq_true rfl) (fun _ _ z => z.elim) h7 (fun x10 M8 h9 => ?_)
    obtain ⟨s11, h12⟩ := h9
    obtain ⟨h13, h14⟩ := h12
    refine ev_if_eq 83 dX12_byMatching_76 (by decide) s11 (fun c15 => ?_) (fun c15 => ?_)
    · have h16 := h13 c15
      refine ev_iconst dX12_byMatching_83 ?_
      refine ev_isub dX12_byMatching_84 ?_
      refine ev_istore_n dX12_byMatching_85 rfl (by decide) rfl ?_
      refine ev_iinc (j := 2) dX12_byMatching_86 rfl (by decide) rfl ?_
      refine ev_goto 33 dX12_byMatching_89 (by decide) ?_
      exact ev_sub [2, 1, 0] rfl h16
    · have h17 := h14 c15
      refine ev_iconst dX12_byMatching_79 ?_
      refine ev_goto 84 dX12_byMatching_80 (by decide) ?_
      refine ev_isub dX12_byMatching_84 ?_
      refine ev_istore_n dX12_byMatching_85 rfl (by decide) rfl ?_
      refine ev_iinc (j := 2) dX12_byMatching_86 rfl (by decide) rfl ?_
      refine ev_goto 33 dX12_byMatching_89 (by decide) ?_
      exact ev_sub [2, 1, 0] rfl h17
  · have h18 := h5 c6
    refine ev_aload_n (j := 0) dX12_byMatching_57 rfl rfl ?_
    refine ev_get frX12_52 dX12_byMatching_58 dm8_0 en8_0 rfl ?_
    refine ev_iload_n (j := 3) dX12_byMatching_61 rfl rfl ?_
    refine ev_iconst dX12_byMatching_62 ?_
    obtain ⟨s19, s20, h21⟩ := h18
    refine ev_zast dX12_byMatching_63 dm8_15 ar8_15 (by decide) s19 s20 (by decide) ?_
    refine ev_iinc (j := 3) dX12_byMatching_64 rfl (by decide) rfl ?_
    refine ev_goto 46 dX12_byMatching_67 (by decide) ?_
    exact ev_sub [1, 2, 3, 0] rfl h21
def eX12_byWaiting (G : GT) (K : List Value → Mem → Prop) (X : String → Mem → Prop) (pc : Nat) (lv : List (Nat × Value)) (st : List Value) (M : Mem) : Prop := Ex G zX12_byWaiting 2 0 K X 0 pc lv st M
set_option maxRecDepth 20000 in
set_option maxHeartbeats 4000000 in
theorem bX12_byWaiting {G : GT} {K : List Value → Mem → Prop} {X : String → Mem → Prop} {M : Mem} (h : Call G 1 0 zX12_orders [rr G 8 0 0] M (kV (fun M1 => eX12_byWaiting G K X 8 [(0, rr G 8 0 0), (1, iv 0), (2, iv 0)] [] M1)) noX) : Call G 2 0 zX12_byWaiting [rr G 8 0 0] M K X := by
  refine call_intro (lv := [(0, rr G 8 0 0)]) (by decide) rfl (Nat.le_of_ble_eq_true rfl) rfl ?_
  refine ev_aload_n (j := 0) dX12_byWaiting_0 rfl rfl ?_
  refine ev_callVV (As := []) (st := []) mfX12_orders mlX12_304 dX12_byWaiting_1 rfl dm8_0 en8_0 rfl rfl rfl (by decide) (by decide) (by decide) (Nat.le_of_ble_eq_true rfl) (fun _ _ z => z.elim) h (fun M1 h2 => ?_)
  refine ev_iconst dX12_byWaiting_4 ?_
  refine ev_istore_n dX12_byWaiting_5 rfl (by decide) rfl ?_
  refine ev_iconst dX12_byWaiting_6 ?_
  refine ev_istore_n dX12_byWaiting_7 rfl (by decide) rfl ?_
  exact ev_sub [2, 1, 0] rfl h2
set_option maxRecDepth 20000 in
set_option maxHeartbeats 4000000 in
theorem bX12_byWaiting_8 {G : GT} {K : List Value → Mem → Prop} {X : String → Mem → Prop} {M : Mem} {v1 v2 : Int} (h : I32 v2 ∧ I32 (M 8 0 0 10) ∧ ((¬ v2 < (M 8 0 0 10) → K [iv v1] M) ∧ (v2 < (M 8 0 0 10) → 0 ≤ v2 ∧ v2 < 30 ∧ eX12_byWaiting G K X 29 [(0, rr G 8 0 0), (1, iv v1), (2, iv v2), (3, iv (M 8 0 6 v2)), (4, iv (-1)), (5, iv 0)] [] M))) : eX12_byWaiting G K X 8 [(0, rr G 8 0 0), (1, iv v1), (2, iv v2)] [] M := by
  show Ex G zX12_byWaiting 2 0 K X 0 8 [(0, rr G 8 0 0), (1, iv v1), (2, iv v2)] [] M
  refine ev_iload_n (j := 2) dX12_byWaiting_8 rfl rfl ?_
  refine ev_aload_n (j := 0) dX12_byWaiting_9 rfl rfl ?_
  refine ev_get frX12_201 dX12_byWaiting_10 dm8_0 en8_0 rfl ?_
  obtain ⟨s1, s2, h3⟩ := h
  obtain ⟨h4, h5⟩ := h3
  refine ev_icmp_ge 163 dX12_byWaiting_13 (by decide) s1 s2 (fun c6 => ?_) (fun c6 => ?_)
  · have h7 := h4 c6
    refine ev_iload_n (j := 1) dX12_byWaiting_163 rfl rfl ?_
    exact ev_iret dX12_byWaiting_164 (by decide) rfl h7
  · have h8 := h5 c6
    refine ev_aload_n (j := 0) dX12_byWaiting_16 rfl rfl ?_
    refine ev_get frX12_25 dX12_byWaiting_17 dm8_0 en8_0 rfl ?_
    refine ev_iload_n (j := 2) dX12_byWaiting_20 rfl rfl ?_
    obtain ⟨s9, s10, h11⟩ := h8
    refine ev_iald dX12_byWaiting_21 dm8_6 ar8_6 (by decide) s9 s10 ?_
    refine ev_istore_n dX12_byWaiting_22 rfl (by decide) rfl ?_
    refine ev_iconst dX12_byWaiting_23 ?_
    refine ev_istore dX12_byWaiting_24 (by decide) rfl ?_
    refine ev_iconst dX12_byWaiting_26 ?_
    refine ev_istore dX12_byWaiting_27 (by decide) rfl ?_
    exact ev_sub [3, 4, 5, 2, 1, 0] rfl h11
set_option maxRecDepth 20000 in
set_option maxHeartbeats 4000000 in
theorem bX12_byWaiting_29 {G : GT} {K : List Value → Mem → Prop} {X : String → Mem → Prop} {M : Mem} {v1 v2 v3 v4 v5 : Int} (h : I32 v5 ∧ I32 v1 ∧ ((¬ v5 < v1 → I32 v4 ∧ ((¬ v4 < 0 → Call G 0 0 zX12_last [rr G 8 0 0, iv v3] M (kI (fun x16 M14 => 0 ≤ v4 ∧ v4 < 30 ∧ Call G 1 0 zX12_arrives [rr G 8 0 0, iv v3] (wr M14 8 0 16 v4 x16) (kI (fun x22 M20 => eX12_byWaiting G K X 8 [(0, rr G 8 0 0), (1, iv v1), (2, iv (v2 + 1))] [] (wr M20 8 0 17 v4 x22))) noX)) noX) ∧ (v4 < 0 → Call G 0 0 zX12_last [rr G 8 0 0, iv v3] M (kI (fun x26 M24 => 0 ≤ v1 ∧ v1 < 30 ∧ Call G 1 0 zX12_arrives [rr G 8 0 0, iv v3] (wr M24 8 0 16 v1 x26) (kI (fun x32 M30 => eX12_byWaiting G K X 8 [(0, rr G 8 0 0), (1, iv (v1 + 1)), (2, iv (v2 + 1))] [] (wr M30 8 0 17 v1 x32))) noX)) noX))) ∧ (v5 < v1 → 0 ≤ v5 ∧ v5 < 30 ∧ Call G 0 0 zX12_first [rr G 8 0 0, iv v3] M (kI (fun x39 M37 => I32 (M 8 0 16 v5) ∧ I32 x39 ∧ ((¬ (M 8 0 16 v5) = x39 → eX12_byWaiting G K X 29 [(0, rr G 8 0 0), (1, iv v1), (2, iv v2), (3, iv v3), (4, iv v4), (5, iv (v5 + 1))] [] M37) ∧ ((M 8 0 16 v5) = x39 → Call G 0 0 zX12_departs [rr G 8 0 0, iv v3] M37 (kI (fun x50 M48 => I32 x50 ∧ I32 ((M48 8 0 17 v5) + (M48 8 0 1 34)) ∧ ((x50 < ((M48 8 0 17 v5) + (M48 8 0 1 34)) → eX12_byWaiting G K X 29 [(0, rr G 8 0 0), (1, iv v1), (2, iv v2), (3, iv v3), (4, iv v4), (5, iv (v5 + 1))] [] M48) ∧ (¬ x50 < ((M48 8 0 17 v5) + (M48 8 0 1 34)) → I32 v4 ∧ ((v4 < 0 → eX12_byWaiting G K X 29 [(0, rr G 8 0 0), (1, iv v1), (2, iv v2), (3, iv v3), (4, iv v5), (5, iv (v5 + 1))] [] M48) ∧ (¬ v4 < 0 → 0 ≤ v4 ∧ v4 < 30 ∧ I32 (M48 8 0 17 v5) ∧ I32 (M48 8 0 17 v4) ∧ ((¬ (M48 8 0 17 v5) < (M48 8 0 17 v4) → eX12_byWaiting G K X 29 [(0, rr G 8 0 0), (1, iv v1), (2, iv v2), (3, iv v3), (4, iv v4), (5, iv (v5 + 1))] [] M48) ∧ ((M48 8 0 17 v5) < (M48 8 0 17 v4) → eX12_byWaiting G K X 29 [(0, rr G 8 0 0), (1, iv v1), (2, iv v2), (3, iv v3), (4, iv v5), (5, iv (v5 + 1))] [] M48)))))))) noX)))) noX))) : eX12_byWaiting G K X 29 [(0, rr G 8 0 0), (1, iv v1), (2, iv v2), (3, iv v3), (4, iv v4), (5, iv v5)] [] M := by
  show Ex G zX12_byWaiting 2 0 K X 0 29 [(0, rr G 8 0 0), (1, iv v1), (2, iv v2), (3, iv v3), (4, iv v4), (5, iv v5)] [] M
  refine ev_iload (j := 5) dX12_byWaiting_29 rfl ?_
  refine ev_iload_n (j := 1) dX12_byWaiting_31 rfl rfl ?_
  obtain ⟨s1, s2, h3⟩ := h
  obtain ⟨h4, h5⟩ := h3
  refine ev_icmp_ge 122 dX12_byWaiting_32 (by decide) s1 s2 (fun c6 => ?_) (fun c6 => ?_)
  · have h7 := h4 c6
    refine ev_iload (j := 4) dX12_byWaiting_122 rfl ?_
    obtain ⟨s8, h9⟩ := h7
    obtain ⟨h10, h11⟩ := h9
    refine ev_if_ge 133 dX12_byWaiting_124 (by decide) s8 (fun c12 => ?_) (fun c12 => ?_)
    · have h13 := h10 c12
      refine ev_aload_n (j := 0) dX12_byWaiting_133 rfl rfl ?_
      refine ev_get frX12_56 dX12_byWaiting_134 dm8_0 en8_0 rfl ?_
      refine ev_iload (j := 4) dX12_byWaiting_137 rfl ?_
      refine ev_aload_n (j := 0) dX12_byWaiting_139 rfl rfl ?_
      refine ev_iload_n (j := 3) dX12_byWaiting_140 rfl rfl ?_
      refine ev_callVI (As := [iv v3]) (st := [iv v4, rr G 8 0 16]) mfX12_last mlX12_116 dX12_byWaiting_141 rfl dm8_0 en8_0 rfl rfl rfl (by decide) (by decide) (by decide) (Nat.le_of_ble_eq_true rfl) (fun _ _ z => z.elim) h13 (fun x16 M14 h15 => ?_)
      obtain ⟨s17, s18, h19⟩ := h15
      refine ev_iast dX12_byWaiting_144 dm8_16 ar8_16 (by decide) s17 s18 ?_
      refine ev_aload_n (j := 0) dX12_byWaiting_145 rfl rfl ?_
      refine ev_get frX12_59 dX12_byWaiting_146 dm8_0 en8_0 rfl ?_
      refine ev_iload (j := 4) dX12_byWaiting_149 rfl ?_
      refine ev_aload_n (j := 0) dX12_byWaiting_151 rfl rfl ?_
      refine ev_iload_n (j := 3) dX12_byWaiting_152 rfl rfl ?_
      refine ev_callVI (As := [iv v3]) (st := [iv v4, rr G 8 0 17]) mfX12_arrives mlX12_123 dX12_byWaiting_153 rfl dm8_0 en8_0 rfl rfl rfl (by decide) (by decide) (by decide) (Nat.le_of_ble_eq_true rfl) (fun _ _ z => z.elim) h19 (fun x22 M20 h21 => ?_)
      refine ev_iast dX12_byWaiting_156 dm8_17 ar8_17 (by decide) s17 s18 ?_
      refine ev_iinc (j := 2) dX12_byWaiting_157 rfl (by decide) rfl ?_
      refine ev_goto 8 dX12_byWaiting_160 (by decide) ?_
      exact ev_sub [1, 2, 0] rfl h21
    · have h23 := h11 c12
      refine ev_iload_n (j := 1) dX12_byWaiting_127 rfl rfl ?_
      refine ev_istore dX12_byWaiting_128 (by decide) rfl ?_
      refine ev_iinc (j := 2) dX12_byWaiting_130 rfl (by decide) rfl ?_
      refine ev_aload_n (j := 2) dX12_byWaiting_133 rfl rfl ?_
      refine ev_get frX12_56 dX12_byWaiting_134 dm8_0 en8_0 rfl ?_
      refine ev_iload (j := 1) dX12_byWaiting_137 rfl ?_
      refine ev_aload_n (j := 2) dX12_byWaiting_139 rfl rfl ?_
      refine ev_iload_n (j := 4) dX12_byWaiting_140 rfl rfl ?_
      refine ev_callVI (As := [iv v3]) (st := [iv v1, rr G 8 0 16]) mfX12_last mlX12_116 dX12_byWaiting_141 rfl dm8_0 en8_0 rfl rfl rfl (by decide) (by decide) (by decide) (Nat.le_of_ble_eq_true rfl) (fun _ _ z => z.elim) h23 (fun x26 M24 h25 => ?_)
      obtain ⟨s27, s28, h29⟩ := h25
      refine ev_iast dX12_byWaiting_144 dm8_16 ar8_16 (by decide) s27 s28 ?_
      refine ev_aload_n (j := 2) dX12_byWaiting_145 rfl rfl ?_
      refine ev_get frX12_59 dX12_byWaiting_146 dm8_0 en8_0 rfl ?_
      refine ev_iload (j := 1) dX12_byWaiting_149 rfl ?_
      refine ev_aload_n (j := 2) dX12_byWaiting_151 rfl rfl ?_
      refine ev_iload_n (j := 4) dX12_byWaiting_152 rfl rfl ?_
      refine ev_callVI (As := [iv v3]) (st := [iv v1, rr G 8 0 17]) mfX12_arrives mlX12_123 dX12_byWaiting_153 rfl dm8_0 en8_0 rfl rfl rfl (by decide) (by decide) (by decide) (Nat.le_of_ble_eq_true rfl) (fun _ _ z => z.elim) h29 (fun x32 M30 h31 => ?_)
      refine ev_iast dX12_byWaiting_156 dm8_17 ar8_17 (by decide) s27 s28 ?_
      refine ev_iinc (j := 3) dX12_byWaiting_157 rfl (by decide) rfl ?_
      refine ev_goto 8 dX12_byWaiting_160 (by decide) ?_
      exact ev_sub [3, 1, 0] rfl h31
  · have h33 := h5 c6
    refine ev_aload_n (j := 0) dX12_byWaiting_35 rfl rfl ?_
    refine ev_get frX12_56 dX12_byWaiting_36 dm8_0 en8_0 rfl ?_
    refine ev_iload (j := 5) dX12_byWaiting_39 rfl ?_
    obtain ⟨s34, s35, h36⟩ := h33
    refine ev_iald dX12_byWaiting_41 dm8_16 ar8_16 (by decide) s34 s35 ?_
    refine ev_aload_n (j := 0) dX12_byWaiting_42 rfl rfl ?_
    refine ev_iload_n (j := 3) dX12_byWaiting_43 rfl rfl ?_
    refine ev_callVI (As := [iv v3]) (st := [iv (M 8 0 16 v5)]) mfX12_first mlX12_113 dX12_byWaiting_44 rfl dm8_0 en8_0 rfl rfl rfl (by decide) (by decide) (by decide) (Nat.le_of_ble_eq_true rfl) (fun _ _ z => z.elim) h36 (fun x39 M37 h38 => ?_)
    obtain ⟨s40, s41, h42⟩ := h38
    obtain ⟨h43, h44⟩ := h42
    refine ev_icmp_ne 77 dX12_byWaiting_47 (by decide) s40 s41 (fun c45 => ?_) (fun c45 => ?_)
    · have h46 := h43 c45
      refine ev_iconst dX12_byWaiting_77 ?_
      refine ev_istore dX12_byWaiting_78 (by decide) rfl ?_
      refine ev_iload (j := 0) dX12_byWaiting_80 rfl ?_
      refine ev_if_eq 112 dX12_byWaiting_82 (by decide) ⟨by decide, by decide⟩ (fun _ => ?_) (fun c9 => absurd c9 (by decide))
      refine ev_iload (j := 5) dX12_byWaiting_112 rfl ?_
      refine ev_istore dX12_byWaiting_114 (by decide) rfl ?_
      refine ev_iinc (j := 6) dX12_byWaiting_116 rfl (by decide) rfl ?_
      refine ev_goto 29 dX12_byWaiting_119 (by decide) ?_
      exact ev_sub [3, 4, 5, 6, 1, 0] rfl h46
    · have h47 := h44 c45
      refine ev_aload_n (j := 0) dX12_byWaiting_50 rfl rfl ?_
      refine ev_iload_n (j := 3) dX12_byWaiting_51 rfl rfl ?_
      refine ev_callVI (As := [iv v3]) (st := []) mfX12_departs mlX12_109 dX12_byWaiting_52 rfl dm8_0 en8_0 rfl rfl rfl (by decide) (by decide) (by decide) (Nat.le_of_ble_eq_true rfl) (fun _ _ z => z.elim) h47 (fun x50 M48 h49 => ?_)
      refine ev_aload_n (j := 0) dX12_byWaiting_55 rfl rfl ?_
      refine ev_get frX12_59 dX12_byWaiting_56 dm8_0 en8_0 rfl ?_
      refine ev_iload (j := 5) dX12_byWaiting_59 rfl ?_
      refine ev_iald dX12_byWaiting_61 dm8_17 ar8_17 (by decide) s34 s35 ?_
      refine ev_aload_n (j := 0) dX12_byWaiting_62 rfl rfl ?_
      refine ev_get frX12_7 dX12_byWaiting_63 dm8_0 en8_0 rfl ?_
      refine ev_bipush dX12_byWaiting_66 (by decide) ?_
      refine ev_iald dX12_byWaiting_68 dm8_1 ar8_1 (by decide) (by decide) (by decide) ?_
      refine ev_iadd dX12_byWaiting_69 ?_
      obtain ⟨s51, s52, h53⟩ := h49
      obtain ⟨h54, h55⟩ := h53
      refine ev_icmp_lt 77 dX12_byWaiting_70 (by decide) s51 s52 (fun c56 => ?_) (fun c56 => ?_)
      · have h57 := h54 c56
        refine ev_iconst dX12_byWaiting_77 ?_
        refine ev_istore dX12_byWaiting_78 (by decide) rfl ?_
        refine ev_iload (j := 0) dX12_byWaiting_80 rfl ?_
        refine ev_if_eq 112 dX12_byWaiting_82 (by decide) ⟨by decide, by decide⟩ (fun _ => ?_) (fun c9 => absurd c9 (by decide))
        refine ev_iload (j := 5) dX12_byWaiting_112 rfl ?_
        refine ev_istore dX12_byWaiting_114 (by decide) rfl ?_
        refine ev_iinc (j := 6) dX12_byWaiting_116 rfl (by decide) rfl ?_
        refine ev_goto 29 dX12_byWaiting_119 (by decide) ?_
        exact ev_sub [3, 4, 5, 6, 1, 0] rfl h57
      · have h58 := h55 c56
        refine ev_iconst dX12_byWaiting_73 ?_
        refine ev_goto 78 dX12_byWaiting_74 (by decide) ?_
        refine ev_istore dX12_byWaiting_78 (by decide) rfl ?_
        refine ev_iload (j := 0) dX12_byWaiting_80 rfl ?_
        refine ev_if_eq 112 dX12_byWaiting_82 (by decide) ⟨by decide, by decide⟩ (fun c9 => absurd c9 (by decide)) (fun _ => ?_)
        refine ev_iload (j := 5) dX12_byWaiting_85 rfl ?_
        obtain ⟨s59, h60⟩ := h58
        obtain ⟨h61, h62⟩ := h60
        refine ev_if_lt 107 dX12_byWaiting_87 (by decide) s59 (fun c63 => ?_) (fun c63 => ?_)
        · have h64 := h61 c63
          refine ev_iload (j := 6) dX12_byWaiting_107 rfl ?_
          refine ev_goto 114 dX12_byWaiting_109 (by decide) ?_
          refine ev_istore dX12_byWaiting_114 (by decide) rfl ?_
          refine ev_iinc (j := 6) dX12_byWaiting_116 rfl (by decide) rfl ?_
          refine ev_goto 29 dX12_byWaiting_119 (by decide) ?_
          exact ev_sub [3, 4, 5, 6, 1, 0] rfl h64
        · have h65 := h62 c63
          refine ev_aload_n (j := 1) dX12_byWaiting_90 rfl rfl ?_
          refine ev_get frX12_59 dX12_byWaiting_91 dm8_0 en8_0 rfl ?_
          refine ev_iload (j := 6) dX12_byWaiting_94 rfl ?_
          refine ev_iald dX12_byWaiting_96 dm8_17 ar8_17 (by decide) s34 s35 ?_
          refine ev_aload_n (j := 1) dX12_byWaiting_97 rfl rfl ?_
          refine ev_get frX12_59 dX12_byWaiting_98 dm8_0 en8_0 rfl ?_
          refine ev_iload (j := 5) dX12_byWaiting_101 rfl ?_
          obtain ⟨s66, s67, h68⟩ := h65
          refine ev_iald dX12_byWaiting_103 dm8_17 ar8_17 (by decide) s66 s67 ?_
          obtain ⟨s69, s70, h71⟩ := h68
          obtain ⟨h72, h73⟩ := h71
          refine ev_icmp_ge 112 dX12_byWaiting_104 (by decide) s69 s70 (fun c74 => ?_) (fun c74 => ?_)
          · have h75 := h72 c74
            refine ev_iload (j := 5) dX12_byWaiting_112 rfl ?_
            refine ev_istore dX12_byWaiting_114 (by decide) rfl ?_
            refine ev_iinc (j := 6) dX12_byWaiting_116 rfl (by decide) rfl ?_
            refine ev_goto 29 dX12_byWaiting_119 (by decide) ?_
            exact ev_sub [3, 4, 5, 6, 1, 0] rfl h75
          · have h76 := h73 c74
            refine ev_iload (j := 6) dX12_byWaiting_107 rfl ?_
            refine ev_goto 114 dX12_byWaiting_109 (by decide) ?_
            refine ev_istore dX12_byWaiting_114 (by decide) rfl ?_
            refine ev_iinc (j := 6) dX12_byWaiting_116 rfl (by decide) rfl ?_
            refine ev_goto 29 dX12_byWaiting_119 (by decide) ?_
            exact ev_sub [3, 4, 5, 6, 1, 0] rfl h76
def eX12_cancel (G : GT) (K : List Value → Mem → Prop) (X : String → Mem → Prop) (pc : Nat) (lv : List (Nat × Value)) (st : List Value) (M : Mem) : Prop := Ex G zX12_cancel 3 0 K X 0 pc lv st M
set_option maxRecDepth 20000 in
set_option maxHeartbeats 4000000 in
theorem bX12_cancel {G : GT} {K : List Value → Mem → Prop} {X : String → Mem → Prop} {M : Mem} {v1 v2 : Int} (h : Call G 1 0 zX12_isTrip [rr G 8 0 0, iv v1] M (kI (fun x3 M1 => I32 x3 ∧ ((x3 = 0 → eX12_cancel G K X 14 [(0, rr G 8 0 0), (1, iv v1), (2, iv v2)] [iv 1, rr G 8 0 0] M1) ∧ (¬ x3 = 0 → eX12_cancel G K X 14 [(0, rr G 8 0 0), (1, iv v1), (2, iv v2)] [iv 0, rr G 8 0 0] M1)))) noX) : Call G 3 0 zX12_cancel [rr G 8 0 0, iv v1, iv v2] M K X := by
  refine call_intro (lv := [(0, rr G 8 0 0), (1, iv v1), (2, iv v2)]) (by decide) rfl (Nat.le_of_ble_eq_true rfl) rfl ?_
  refine ev_aload_n (j := 0) dX12_cancel_0 rfl rfl ?_
  refine ev_aload_n (j := 0) dX12_cancel_1 rfl rfl ?_
  refine ev_iload_n (j := 1) dX12_cancel_2 rfl rfl ?_
  refine ev_callVI (As := [iv v1]) (st := [rr G 8 0 0]) mfX12_isTrip mlX12_169 dX12_cancel_3 rfl dm8_0 en8_0 rfl rfl rfl (by decide) (by decide) (by decide) (Nat.le_of_ble_eq_true rfl) (fun _ _ z => z.elim) h (fun x3 M1 h2 => ?_)
  obtain ⟨s4, h5⟩ := h2
  obtain ⟨h6, h7⟩ := h5
  refine ev_if_eq 13 dX12_cancel_6 (by decide) s4 (fun c8 => ?_) (fun c8 => ?_)
  · have h9 := h6 c8
    refine ev_iconst dX12_cancel_13 ?_
    exact ev_sub [0, 1, 2] rfl h9
  · have h10 := h7 c8
    refine ev_iconst dX12_cancel_9 ?_
    refine ev_goto 14 dX12_cancel_10 (by decide) ?_
    exact ev_sub [0, 1, 2] rfl h10
set_option maxRecDepth 20000 in
set_option maxHeartbeats 4000000 in
theorem bX12_cancel_14 {G : GT} {K : List Value → Mem → Prop} {X : String → Mem → Prop} {M : Mem} {v1 v2 w0 : Int} (h : I32 w0 ∧ ((¬ 0 < w0 → I32 v2 ∧ ((¬ v2 = 0 → eX12_cancel G K X 77 [(0, rr G 8 0 0), (1, iv v1), (2, iv v2)] [] (wr M 8 0 0 7 w0)) ∧ (v2 = 0 → Call G 0 0 zX12_isActive [rr G 8 0 0, iv v1] (wr M 8 0 0 7 w0) (kI (fun x16 M14 => I32 x16 ∧ ((¬ x16 = 0 → eX12_cancel G K X 77 [(0, rr G 8 0 0), (1, iv v1), (2, iv v2)] [] M14) ∧ (x16 = 0 → Call G 0 0 zX12_first [rr G 8 0 0, iv v1] M14 (kI (fun x26 M24 => 0 ≤ 22 + x26 ∧ 22 + x26 < 500 ∧ I32 (M24 8 0 1 (22 + x26)) ∧ (((M24 8 0 1 (22 + x26)) = 0 → eX12_cancel G K X 70 [(0, rr G 8 0 0)] [] M24) ∧ (¬ (M24 8 0 1 (22 + x26)) = 0 → Call G 0 0 zX12_last [rr G 8 0 0, iv v1] M24 (kI (fun x39 M37 => 0 ≤ 22 + x39 ∧ 22 + x39 < 500 ∧ I32 (M37 8 0 1 (22 + x39)) ∧ ((¬ (M37 8 0 1 (22 + x39)) = 0 → eX12_cancel G K X 77 [(0, rr G 8 0 0), (1, iv v1), (2, iv v2)] [] M37) ∧ ((M37 8 0 1 (22 + x39)) = 0 → eX12_cancel G K X 70 [(0, rr G 8 0 0)] [] M37)))) noX)))) noX)))) noX))) ∧ (0 < w0 → K [iv 0] (wr M 8 0 0 7 w0)))) : eX12_cancel G K X 14 [(0, rr G 8 0 0), (1, iv v1), (2, iv v2)] [iv w0, rr G 8 0 0] M := by
  show Ex G zX12_cancel 3 0 K X 0 14 [(0, rr G 8 0 0), (1, iv v1), (2, iv v2)] [iv w0, rr G 8 0 0] M
  refine ev_put fwX12_84 dX12_cancel_14 dm8_0 en8_0 rfl rfl rfl (Nat.le_of_ble_eq_true rfl) ?_
  refine ev_aload_n (j := 0) dX12_cancel_17 rfl rfl ?_
  refine ev_get frX12_84 dX12_cancel_18 dm8_0 en8_0 rfl ?_
  refine ev_topI (b := w0) rfl ?_
  obtain ⟨s1, h2⟩ := h
  obtain ⟨h3, h4⟩ := h2
  refine ev_if_le 26 dX12_cancel_21 (by decide) s1 (fun c5 => ?_) (fun c5 => ?_)
  · have h6 := h3 c5
    refine ev_iload_n (j := 2) dX12_cancel_26 rfl rfl ?_
    obtain ⟨s7, h8⟩ := h6
    obtain ⟨h9, h10⟩ := h8
    refine ev_if_ne 77 dX12_cancel_27 (by decide) s7 (fun c11 => ?_) (fun c11 => ?_)
    · have h12 := h9 c11
      exact ev_sub [0, 1, 2] rfl h12
    · have h13 := h10 c11
      refine ev_aload_n (j := 0) dX12_cancel_30 rfl rfl ?_
      refine ev_iload_n (j := 1) dX12_cancel_31 rfl rfl ?_
      refine ev_callVI (As := [iv v1]) (st := []) mfX12_isActive mlX12_149 dX12_cancel_32 rfl dm8_0 en8_0 rfl rfl rfl (by decide) (by decide) (by decide) (Nat.le_of_ble_eq_true rfl) (fun _ _ z => z.elim) h13 (fun x16 M14 h15 => ?_)
      obtain ⟨s17, h18⟩ := h15
      obtain ⟨h19, h20⟩ := h18
      refine ev_if_ne 77 dX12_cancel_35 (by decide) s17 (fun c21 => ?_) (fun c21 => ?_)
      · have h22 := h19 c21
        exact ev_sub [0, 1, 2] rfl h22
      · have h23 := h20 c21
        refine ev_aload_n (j := 0) dX12_cancel_38 rfl rfl ?_
        refine ev_get frX12_7 dX12_cancel_39 dm8_0 en8_0 rfl ?_
        refine ev_bipush dX12_cancel_42 (by decide) ?_
        refine ev_aload_n (j := 0) dX12_cancel_44 rfl rfl ?_
        refine ev_iload_n (j := 1) dX12_cancel_45 rfl rfl ?_
        refine ev_callVI (As := [iv v1]) (st := [iv 22, rr G 8 0 1]) mfX12_first mlX12_113 dX12_cancel_46 rfl dm8_0 en8_0 rfl rfl rfl (by decide) (by decide) (by decide) (Nat.le_of_ble_eq_true rfl) (fun _ _ z => z.elim) h23 (fun x26 M24 h25 => ?_)
        refine ev_iadd dX12_cancel_49 ?_
        obtain ⟨s27, s28, h29⟩ := h25
        refine ev_iald dX12_cancel_50 dm8_1 ar8_1 (by decide) s27 s28 ?_
        obtain ⟨s30, h31⟩ := h29
        obtain ⟨h32, h33⟩ := h31
        refine ev_if_eq 70 dX12_cancel_51 (by decide) s30 (fun c34 => ?_) (fun c34 => ?_)
        · have h35 := h32 c34
          exact ev_sub [0] rfl h35
        · have h36 := h33 c34
          refine ev_aload_n (j := 0) dX12_cancel_54 rfl rfl ?_
          refine ev_get frX12_7 dX12_cancel_55 dm8_0 en8_0 rfl ?_
          refine ev_bipush dX12_cancel_58 (by decide) ?_
          refine ev_aload_n (j := 0) dX12_cancel_60 rfl rfl ?_
          refine ev_iload_n (j := 1) dX12_cancel_61 rfl rfl ?_
          refine ev_callVI (As := [iv v1]) (st := [iv 22, rr G 8 0 1]) mfX12_last mlX12_116 dX12_cancel_62 rfl dm8_0 en8_0 rfl rfl rfl (by decide) (by decide) (by decide) (Nat.le_of_ble_eq_true rfl) (fun _ _ z => z.elim) h36 (fun x39 M37 h38 => ?_)
          refine ev_iadd dX12_cancel_65 ?_
          obtain ⟨s40, s41, h42⟩ := h38
          refine ev_iald dX12_cancel_66 dm8_1 ar8_1 (by decide) s40 s41 ?_
          obtain ⟨s43, h44⟩ := h42
          obtain ⟨h45, h46⟩ := h44
          refine ev_if_ne 77 dX12_cancel_67 (by decide) s43 (fun c47 => ?_) (fun c47 => ?_)
          · have h48 := h45 c47
            exact ev_sub [0, 1, 2] rfl h48
          · have h49 := h46 c47
            exact ev_sub [0] rfl h49
  · have h50 := h4 c5
    refine ev_iconst dX12_cancel_24 ?_
    exact ev_zret dX12_cancel_25 (by decide) rfl (by decide) h50
set_option maxRecDepth 20000 in
set_option maxHeartbeats 4000000 in
theorem bX12_cancel_77 {G : GT} {K : List Value → Mem → Prop} {X : String → Mem → Prop} {M : Mem} {v1 v2 : Int} (h : Call G 1 0 zX12_begins [rr G 8 0 0] M (kV (fun M1 => Call G 0 0 zX12_isActive [rr G 8 0 0, iv v1] M1 (kI (fun x6 M4 => I32 x6 ∧ ((¬ x6 = 0 → eX12_cancel G K X 94 [(0, rr G 8 0 0), (1, iv v1), (2, iv v2)] [iv 0] M4) ∧ (x6 = 0 → eX12_cancel G K X 94 [(0, rr G 8 0 0), (1, iv v1), (2, iv v2)] [iv 1] M4)))) noX)) noX) : eX12_cancel G K X 77 [(0, rr G 8 0 0), (1, iv v1), (2, iv v2)] [] M := by
  show Ex G zX12_cancel 3 0 K X 0 77 [(0, rr G 8 0 0), (1, iv v1), (2, iv v2)] [] M
  refine ev_aload_n (j := 0) dX12_cancel_77 rfl rfl ?_
  refine ev_callVV (As := []) (st := []) mfX12_begins mlX12_139 dX12_cancel_78 rfl dm8_0 en8_0 rfl rfl rfl (by decide) (by decide) (by decide) (Nat.le_of_ble_eq_true rfl) (fun _ _ z => z.elim) h (fun M1 h2 => ?_)
  refine ev_aload_n (j := 0) dX12_cancel_81 rfl rfl ?_
  refine ev_iload_n (j := 1) dX12_cancel_82 rfl rfl ?_
  refine ev_callVI (As := [iv v1]) (st := []) mfX12_isActive mlX12_149 dX12_cancel_83 rfl dm8_0 en8_0 rfl rfl rfl (by decide) (by decide) (by decide) (Nat.le_of_ble_eq_true rfl) (fun _ _ z => z.elim) h2 (fun x6 M4 h5 => ?_)
  obtain ⟨s7, h8⟩ := h5
  obtain ⟨h9, h10⟩ := h8
  refine ev_if_ne 93 dX12_cancel_86 (by decide) s7 (fun c11 => ?_) (fun c11 => ?_)
  · have h12 := h9 c11
    refine ev_iconst dX12_cancel_93 ?_
    exact ev_sub [0, 1, 2] rfl h12
  · have h13 := h10 c11
    refine ev_iconst dX12_cancel_89 ?_
    refine ev_goto 94 dX12_cancel_90 (by decide) ?_
    exact ev_sub [0, 1, 2] rfl h13
set_option maxRecDepth 20000 in
set_option maxHeartbeats 4000000 in
theorem bX12_cancel_70 {G : GT} {K : List Value → Mem → Prop} {X : String → Mem → Prop} {M : Mem} (h : K [iv 0] (wr M 8 0 0 7 2)) : eX12_cancel G K X 70 [(0, rr G 8 0 0)] [] M := by
  show Ex G zX12_cancel 3 0 K X 0 70 [(0, rr G 8 0 0)] [] M
  refine ev_aload_n (j := 0) dX12_cancel_70 rfl rfl ?_
  refine ev_iconst dX12_cancel_71 ?_
  refine ev_put fwX12_84 dX12_cancel_72 dm8_0 en8_0 rfl rfl rfl (Nat.le_of_ble_eq_true rfl) ?_
  refine ev_iconst dX12_cancel_75 ?_
  exact ev_zret dX12_cancel_76 (by decide) rfl (by decide) h
set_option maxRecDepth 20000 in
set_option maxHeartbeats 4000000 in
theorem bX12_cancel_94 {G : GT} {K : List Value → Mem → Prop} {X : String → Mem → Prop} {M : Mem} {v1 v2 w0 : Int} (h : I32 v2 ∧ ((v2 = 0 → eX12_cancel G K X 105 [(0, rr G 8 0 0), (1, iv v1), (2, iv v2), (3, iv w0)] [] M) ∧ (¬ v2 = 0 → Call G 2 0 zX12_leaves [rr G 8 0 0, iv v1, iv 1] M (kV (fun M8 => eX12_cancel G K X 105 [(0, rr G 8 0 0), (1, iv v1), (2, iv v2), (3, iv w0)] [] M8)) noX))) : eX12_cancel G K X 94 [(0, rr G 8 0 0), (1, iv v1), (2, iv v2)] [iv w0] M := by
  show Ex G zX12_cancel 3 0 K X 0 94 [(0, rr G 8 0 0), (1, iv v1), (2, iv v2)] [iv w0] M
  refine ev_istore_n dX12_cancel_94 rfl (by decide) rfl ?_
  refine ev_iload_n (j := 3) dX12_cancel_95 rfl rfl ?_
  obtain ⟨s1, h2⟩ := h
  obtain ⟨h3, h4⟩ := h2
  refine ev_if_eq 105 dX12_cancel_96 (by decide) s1 (fun c5 => ?_) (fun c5 => ?_)
  · have h6 := h3 c5
    exact ev_sub [1, 2, 3, 0] rfl h6
  · have h7 := h4 c5
    refine ev_aload_n (j := 1) dX12_cancel_99 rfl rfl ?_
    refine ev_iload_n (j := 2) dX12_cancel_100 rfl rfl ?_
    refine ev_iconst dX12_cancel_101 ?_
    refine ev_callVV (As := [iv v1, iv 1]) (st := []) mfX12_leaves mlX12_172 dX12_cancel_102 rfl dm8_0 en8_0 rfl rfl rfl (by decide) (by decide) (by decide) (Nat.le_of_ble_eq_true rfl) (fun _ _ z => z.elim) h7 (fun M8 h9 => ?_)
    exact ev_sub [1, 2, 3, 0] rfl h9
set_option maxRecDepth 20000 in
set_option maxHeartbeats 4000000 in
theorem bX12_cancel_105 {G : GT} {K : List Value → Mem → Prop} {X : String → Mem → Prop} {M : Mem} {v1 v2 v3 : Int} (h : I32 v2 ∧ ((v2 = 0 → eX12_cancel G K X 126 [(0, rr G 8 0 0), (3, iv v3)] [iv 0, iv ((40 + (4 * v1)) + 3), rr G 8 0 1] M) ∧ (¬ v2 = 0 → eX12_cancel G K X 126 [(0, rr G 8 0 0), (3, iv v3)] [iv 1, iv ((40 + (4 * v1)) + 3), rr G 8 0 1] M))) : eX12_cancel G K X 105 [(0, rr G 8 0 0), (1, iv v1), (2, iv v2), (3, iv v3)] [] M := by
  show Ex G zX12_cancel 3 0 K X 0 105 [(0, rr G 8 0 0), (1, iv v1), (2, iv v2), (3, iv v3)] [] M
  refine ev_aload_n (j := 0) dX12_cancel_105 rfl rfl ?_
  refine ev_get frX12_7 dX12_cancel_106 dm8_0 en8_0 rfl ?_
  refine ev_bipush dX12_cancel_109 (by decide) ?_
  refine ev_iconst dX12_cancel_111 ?_
  refine ev_iload_n (j := 1) dX12_cancel_112 rfl rfl ?_
  refine ev_imul dX12_cancel_113 ?_
  refine ev_iadd dX12_cancel_114 ?_
  refine ev_iconst dX12_cancel_115 ?_
  refine ev_iadd dX12_cancel_116 ?_
  refine ev_iload_n (j := 2) dX12_cancel_117 rfl rfl ?_
  obtain ⟨s1, h2⟩ := h
  obtain ⟨h3, h4⟩ := h2
  refine ev_if_eq 125 dX12_cancel_118 (by decide) s1 (fun c5 => ?_) (fun c5 => ?_)
  · have h6 := h3 c5
    refine ev_iconst dX12_cancel_125 ?_
    exact ev_sub [0, 3] rfl h6
  · have h7 := h4 c5
    refine ev_iconst dX12_cancel_121 ?_
    refine ev_goto 126 dX12_cancel_122 (by decide) ?_
    exact ev_sub [0, 3] rfl h7
set_option maxRecDepth 20000 in
set_option maxHeartbeats 4000000 in
theorem bX12_cancel_126 {G : GT} {K : List Value → Mem → Prop} {X : String → Mem → Prop} {M : Mem} {v3 w0 w1 : Int} (h : 0 ≤ w1 ∧ w1 < 500 ∧ Call G 0 0 zX12_remembers [rr G 8 0 0] (wr M 8 0 1 w1 w0) (kV (fun M4 => (v3 = 0 ∨ v3 = 1) ∧ K [iv v3] M4)) noX) : eX12_cancel G K X 126 [(0, rr G 8 0 0), (3, iv v3)] [iv w0, iv w1, rr G 8 0 1] M := by
  show Ex G zX12_cancel 3 0 K X 0 126 [(0, rr G 8 0 0), (3, iv v3)] [iv w0, iv w1, rr G 8 0 1] M
  obtain ⟨s1, s2, h3⟩ := h
  refine ev_iast dX12_cancel_126 dm8_1 ar8_1 (by decide) s1 s2 ?_
  refine ev_aload_n (j := 0) dX12_cancel_127 rfl rfl ?_
  refine ev_callVV (As := []) (st := []) mfX12_remembers mlX12_102 dX12_cancel_128 rfl dm8_0 en8_0 rfl rfl rfl (by decide) (by decide) (by decide) (Nat.le_of_ble_eq_true rfl) (fun _ _ z => z.elim) h3 (fun M4 h5 => ?_)
  refine ev_iload_n (j := 1) dX12_cancel_131 rfl rfl ?_
  obtain ⟨s7, h8⟩ := h5
  exact ev_zret dX12_cancel_132 (by decide) rfl s7 h8
def eX12_close (G : GT) (K : List Value → Mem → Prop) (X : String → Mem → Prop) (pc : Nat) (lv : List (Nat × Value)) (st : List Value) (M : Mem) : Prop := Ex G zX12_close 0 0 K X 0 pc lv st M
set_option maxRecDepth 20000 in
set_option maxHeartbeats 4000000 in
theorem bX12_close {G : GT} {K : List Value → Mem → Prop} {X : String → Mem → Prop} {M : Mem} (h : eX12_close G K X 4 [(0, rr G 8 0 0), (1, iv 0), (2, iv 1)] [] M) : Call G 0 0 zX12_close [rr G 8 0 0] M K X := by
  refine call_intro (lv := [(0, rr G 8 0 0)]) (by decide) rfl (Nat.le_of_ble_eq_true rfl) rfl ?_
  refine ev_iconst dX12_close_0 ?_
  refine ev_istore_n dX12_close_1 rfl (by decide) rfl ?_
  refine ev_iconst dX12_close_2 ?_
  refine ev_istore_n dX12_close_3 rfl (by decide) rfl ?_
  exact ev_sub [2, 1, 0] rfl h
set_option maxRecDepth 20000 in
set_option maxHeartbeats 4000000 in
theorem bX12_close_4 {G : GT} {K : List Value → Mem → Prop} {X : String → Mem → Prop} {M : Mem} {v1 v2 : Int} (h : I32 v2 ∧ I32 (M 8 0 0 10) ∧ ((¬ v2 < (M 8 0 0 10) → K [iv v1] M) ∧ (v2 < (M 8 0 0 10) → 0 ≤ v2 ∧ v2 < 30 ∧ 0 ≤ v2 - 1 ∧ v2 - 1 < 30 ∧ I32 ((M 8 0 5 v2) - (M 8 0 5 (v2 - 1))) ∧ I32 (M 8 0 1 35) ∧ ((¬ ((M 8 0 5 v2) - (M 8 0 5 (v2 - 1))) < (M 8 0 1 35) → eX12_close G K X 4 [(0, rr G 8 0 0), (1, iv (v1 + 0)), (2, iv (v2 + 1))] [] M) ∧ (((M 8 0 5 v2) - (M 8 0 5 (v2 - 1))) < (M 8 0 1 35) → eX12_close G K X 4 [(0, rr G 8 0 0), (1, iv (v1 + 1)), (2, iv (v2 + 1))] [] M))))) : eX12_close G K X 4 [(0, rr G 8 0 0), (1, iv v1), (2, iv v2)] [] M := by
  show Ex G zX12_close 0 0 K X 0 4 [(0, rr G 8 0 0), (1, iv v1), (2, iv v2)] [] M
  refine ev_iload_n (j := 2) dX12_close_4 rfl rfl ?_
  refine ev_aload_n (j := 0) dX12_close_5 rfl rfl ?_
  refine ev_get frX12_201 dX12_close_6 dm8_0 en8_0 rfl ?_
  obtain ⟨s1, s2, h3⟩ := h
  obtain ⟨h4, h5⟩ := h3
  refine ev_icmp_ge 51 dX12_close_9 (by decide) s1 s2 (fun c6 => ?_) (fun c6 => ?_)
  · have h7 := h4 c6
    refine ev_iload_n (j := 1) dX12_close_51 rfl rfl ?_
    exact ev_iret dX12_close_52 (by decide) rfl h7
  · have h8 := h5 c6
    refine ev_iload_n (j := 1) dX12_close_12 rfl rfl ?_
    refine ev_aload_n (j := 0) dX12_close_13 rfl rfl ?_
    refine ev_get frX12_22 dX12_close_14 dm8_0 en8_0 rfl ?_
    refine ev_iload_n (j := 2) dX12_close_17 rfl rfl ?_
    obtain ⟨s9, s10, h11⟩ := h8
    refine ev_iald dX12_close_18 dm8_5 ar8_5 (by decide) s9 s10 ?_
    refine ev_aload_n (j := 0) dX12_close_19 rfl rfl ?_
    refine ev_get frX12_22 dX12_close_20 dm8_0 en8_0 rfl ?_
    refine ev_iload_n (j := 2) dX12_close_23 rfl rfl ?_
    refine ev_iconst dX12_close_24 ?_
    refine ev_isub dX12_close_25 ?_
    obtain ⟨s12, s13, h14⟩ := h11
    refine ev_iald dX12_close_26 dm8_5 ar8_5 (by decide) s12 s13 ?_
    refine ev_isub dX12_close_27 ?_
    refine ev_aload_n (j := 0) dX12_close_28 rfl rfl ?_
    refine ev_get frX12_7 dX12_close_29 dm8_0 en8_0 rfl ?_
    refine ev_bipush dX12_close_32 (by decide) ?_
    refine ev_iald dX12_close_34 dm8_1 ar8_1 (by decide) (by decide) (by decide) ?_
    obtain ⟨s15, s16, h17⟩ := h14
    obtain ⟨h18, h19⟩ := h17
    refine ev_icmp_ge 42 dX12_close_35 (by decide) s15 s16 (fun c20 => ?_) (fun c20 => ?_)
    · have h21 := h18 c20
      refine ev_iconst dX12_close_42 ?_
      refine ev_iadd dX12_close_43 ?_
      refine ev_istore_n dX12_close_44 rfl (by decide) rfl ?_
      refine ev_iinc (j := 2) dX12_close_45 rfl (by decide) rfl ?_
      refine ev_goto 4 dX12_close_48 (by decide) ?_
      exact ev_sub [2, 1, 0] rfl h21
    · have h22 := h19 c20
      refine ev_iconst dX12_close_38 ?_
      refine ev_goto 43 dX12_close_39 (by decide) ?_
      refine ev_iadd dX12_close_43 ?_
      refine ev_istore_n dX12_close_44 rfl (by decide) rfl ?_
      refine ev_iinc (j := 2) dX12_close_45 rfl (by decide) rfl ?_
      refine ev_goto 4 dX12_close_48 (by decide) ?_
      exact ev_sub [2, 1, 0] rfl h22
def eX12_comes (G : GT) (K : List Value → Mem → Prop) (X : String → Mem → Prop) (pc : Nat) (lv : List (Nat × Value)) (st : List Value) (M : Mem) : Prop := Ex G zX12_comes 0 0 K X 0 pc lv st M
set_option maxRecDepth 20000 in
set_option maxHeartbeats 4000000 in
theorem bX12_comes {G : GT} {K : List Value → Mem → Prop} {X : String → Mem → Prop} {M : Mem} {v1 v2 : Int} (h : eX12_comes G K X 5 [(0, rr G 8 0 0), (1, iv v1), (2, iv v2), (3, iv (M 8 0 0 10))] [] M) : Call G 0 0 zX12_comes [rr G 8 0 0, iv v1, iv v2] M K X := by
  refine call_intro (lv := [(0, rr G 8 0 0), (1, iv v1), (2, iv v2)]) (by decide) rfl (Nat.le_of_ble_eq_true rfl) rfl ?_
  refine ev_aload_n (j := 0) dX12_comes_0 rfl rfl ?_
  refine ev_get frX12_201 dX12_comes_1 dm8_0 en8_0 rfl ?_
  refine ev_istore_n dX12_comes_4 rfl (by decide) rfl ?_
  exact ev_sub [1, 2, 3, 0] rfl h
set_option maxRecDepth 20000 in
set_option maxHeartbeats 4000000 in
theorem bX12_comes_5 {G : GT} {K : List Value → Mem → Prop} {X : String → Mem → Prop} {M : Mem} {v1 v2 v3 : Int} (h : I32 v3 ∧ ((¬ 0 < v3 → 0 ≤ v3 ∧ v3 < 30 ∧ ∀ M10 : Mem, M10 = wr (wr (wr M 8 0 5 v3 v1) 8 0 6 v3 v2) 8 0 0 10 ((M 8 0 0 10) + 1) → K [] M10) ∧ (0 < v3 → 0 ≤ v3 - 1 ∧ v3 - 1 < 30 ∧ I32 (M 8 0 5 (v3 - 1)) ∧ I32 v1 ∧ ((v1 < (M 8 0 5 (v3 - 1)) → 0 ≤ v3 ∧ v3 < 30 ∧ ∀ M27 : Mem, M27 = wr (wr M 8 0 5 v3 (M 8 0 5 (v3 - 1))) 8 0 6 v3 (M 8 0 6 (v3 - 1)) → eX12_comes G K X 5 [(0, rr G 8 0 0), (1, iv v1), (2, iv v2), (3, iv (v3 + (-1)))] [] M27) ∧ (¬ v1 < (M 8 0 5 (v3 - 1)) → ((¬ (M 8 0 5 (v3 - 1)) = v1 → 0 ≤ v3 ∧ v3 < 30 ∧ ∀ M38 : Mem, M38 = wr (wr (wr M 8 0 5 v3 v1) 8 0 6 v3 v2) 8 0 0 10 ((M 8 0 0 10) + 1) → K [] M38) ∧ ((M 8 0 5 (v3 - 1)) = v1 → I32 (M 8 0 6 (v3 - 1)) ∧ I32 v2 ∧ ((¬ v2 < (M 8 0 6 (v3 - 1)) → 0 ≤ v3 ∧ v3 < 30 ∧ ∀ M52 : Mem, M52 = wr (wr (wr M 8 0 5 v3 v1) 8 0 6 v3 v2) 8 0 0 10 ((M 8 0 0 10) + 1) → K [] M52) ∧ (v2 < (M 8 0 6 (v3 - 1)) → 0 ≤ v3 ∧ v3 < 30 ∧ ∀ M59 : Mem, M59 = wr (wr M 8 0 5 v3 (M 8 0 5 (v3 - 1))) 8 0 6 v3 (M 8 0 6 (v3 - 1)) → eX12_comes G K X 5 [(0, rr G 8 0 0), (1, iv v1), (2, iv v2), (3, iv (v3 + (-1)))] [] M59))))))))) : eX12_comes G K X 5 [(0, rr G 8 0 0), (1, iv v1), (2, iv v2), (3, iv v3)] [] M := by
  show Ex G zX12_comes 0 0 K X 0 5 [(0, rr G 8 0 0), (1, iv v1), (2, iv v2), (3, iv v3)] [] M
  refine ev_iload_n (j := 3) dX12_comes_5 rfl rfl ?_
  obtain ⟨s1, h2⟩ := h
  obtain ⟨h3, h4⟩ := h2
  refine ev_if_le 79 dX12_comes_6 (by decide) s1 (fun c5 => ?_) (fun c5 => ?_)
  · have h6 := h3 c5
    refine ev_aload_n (j := 0) dX12_comes_79 rfl rfl ?_
    refine ev_get frX12_22 dX12_comes_80 dm8_0 en8_0 rfl ?_
    refine ev_iload_n (j := 3) dX12_comes_83 rfl rfl ?_
    refine ev_iload_n (j := 1) dX12_comes_84 rfl rfl ?_
    obtain ⟨s7, s8, h9⟩ := h6
    refine ev_iast dX12_comes_85 dm8_5 ar8_5 (by decide) s7 s8 ?_
    refine ev_aload_n (j := 0) dX12_comes_86 rfl rfl ?_
    refine ev_get frX12_25 dX12_comes_87 dm8_0 en8_0 rfl ?_
    refine ev_iload_n (j := 3) dX12_comes_90 rfl rfl ?_
    refine ev_iload_n (j := 2) dX12_comes_91 rfl rfl ?_
    refine ev_iast dX12_comes_92 dm8_6 ar8_6 (by decide) s7 s8 ?_
    refine ev_aload_n (j := 0) dX12_comes_93 rfl rfl ?_
    refine ev_dup dX12_comes_94 rfl ?_
    refine ev_get frX12_201 dX12_comes_95 dm8_0 en8_0 rfl ?_
    refine ev_topI (b := M 8 0 0 10) rfl ?_
    refine ev_iconst dX12_comes_98 ?_
    refine ev_iadd dX12_comes_99 ?_
    refine ev_put fwX12_201 dX12_comes_100 dm8_0 en8_0 rfl rfl rfl (Nat.le_of_ble_eq_true rfl) ?_
    obtain ⟨M10, e12⟩ : ∃ M10 : Mem, M10 = wr (wr (wr M 8 0 5 v3 v1) 8 0 6 v3 v2) 8 0 0 10 ((M 8 0 0 10) + 1) := ⟨_, rfl⟩
    have h11 := h9 _ e12
    refine ev_mem e12 ?_
    exact ev_vret dX12_comes_103 (by decide) rfl h11
  · have h13 := h4 c5
    refine ev_aload_n (j := 0) dX12_comes_9 rfl rfl ?_
    refine ev_get frX12_22 dX12_comes_10 dm8_0 en8_0 rfl ?_
    refine ev_iload_n (j := 3) dX12_comes_13 rfl rfl ?_
    refine ev_iconst dX12_comes_14 ?_
    refine ev_isub dX12_comes_15 ?_
    obtain ⟨s14, s15, h16⟩ := h13
    refine ev_iald dX12_comes_16 dm8_5 ar8_5 (by decide) s14 s15 ?_
    refine ev_iload_n (j := 1) dX12_comes_17 rfl rfl ?_
    obtain ⟨s17, s18, h19⟩ := h16
    obtain ⟨h20, h21⟩ := h19
    refine ev_icmp_gt 45 dX12_comes_18 (by decide) s17 s18 (fun c22 => ?_) (fun c22 => ?_)
    · have h23 := h20 c22
      refine ev_aload_n (j := 0) dX12_comes_45 rfl rfl ?_
      refine ev_get frX12_22 dX12_comes_46 dm8_0 en8_0 rfl ?_
      refine ev_iload_n (j := 3) dX12_comes_49 rfl rfl ?_
      refine ev_aload_n (j := 0) dX12_comes_50 rfl rfl ?_
      refine ev_get frX12_22 dX12_comes_51 dm8_0 en8_0 rfl ?_
      refine ev_iload_n (j := 3) dX12_comes_54 rfl rfl ?_
      refine ev_iconst dX12_comes_55 ?_
      refine ev_isub dX12_comes_56 ?_
      refine ev_iald dX12_comes_57 dm8_5 ar8_5 (by decide) s14 s15 ?_
      obtain ⟨s24, s25, h26⟩ := h23
      refine ev_iast dX12_comes_58 dm8_5 ar8_5 (by decide) s24 s25 ?_
      refine ev_aload_n (j := 0) dX12_comes_59 rfl rfl ?_
      refine ev_get frX12_25 dX12_comes_60 dm8_0 en8_0 rfl ?_
      refine ev_iload_n (j := 3) dX12_comes_63 rfl rfl ?_
      refine ev_aload_n (j := 0) dX12_comes_64 rfl rfl ?_
      refine ev_get frX12_25 dX12_comes_65 dm8_0 en8_0 rfl ?_
      refine ev_iload_n (j := 3) dX12_comes_68 rfl rfl ?_
      refine ev_iconst dX12_comes_69 ?_
      refine ev_isub dX12_comes_70 ?_
      refine ev_iald dX12_comes_71 dm8_6 ar8_6 (by decide) s14 s15 ?_
      refine ev_topI (b := M 8 0 6 (v3 - 1)) rfl ?_
      refine ev_iast dX12_comes_72 dm8_6 ar8_6 (by decide) s24 s25 ?_
      obtain ⟨M27, e29⟩ : ∃ M27 : Mem, M27 = wr (wr M 8 0 5 v3 (M 8 0 5 (v3 - 1))) 8 0 6 v3 (M 8 0 6 (v3 - 1)) := ⟨_, rfl⟩
      have h28 := h26 _ e29
      refine ev_mem e29 ?_
      refine ev_iinc (j := 3) dX12_comes_73 rfl (by decide) rfl ?_
      refine ev_goto 5 dX12_comes_76 (by decide) ?_
      exact ev_sub [1, 2, 3, 0] rfl h28
    · have h30 := h21 c22
      refine ev_aload_n (j := 0) dX12_comes_21 rfl rfl ?_
      refine ev_get frX12_22 dX12_comes_22 dm8_0 en8_0 rfl ?_
      refine ev_iload_n (j := 3) dX12_comes_25 rfl rfl ?_
      refine ev_iconst dX12_comes_26 ?_
      refine ev_isub dX12_comes_27 ?_
      refine ev_iald dX12_comes_28 dm8_5 ar8_5 (by decide) s14 s15 ?_
      refine ev_iload_n (j := 1) dX12_comes_29 rfl rfl ?_
      obtain ⟨h31, h32⟩ := h30
      refine ev_icmp_ne 79 dX12_comes_30 (by decide) s17 s18 (fun c33 => ?_) (fun c33 => ?_)
      · have h34 := h31 c33
        refine ev_aload_n (j := 0) dX12_comes_79 rfl rfl ?_
        refine ev_get frX12_22 dX12_comes_80 dm8_0 en8_0 rfl ?_
        refine ev_iload_n (j := 3) dX12_comes_83 rfl rfl ?_
        refine ev_iload_n (j := 1) dX12_comes_84 rfl rfl ?_
        obtain ⟨s35, s36, h37⟩ := h34
        refine ev_iast dX12_comes_85 dm8_5 ar8_5 (by decide) s35 s36 ?_
        refine ev_aload_n (j := 0) dX12_comes_86 rfl rfl ?_
        refine ev_get frX12_25 dX12_comes_87 dm8_0 en8_0 rfl ?_
        refine ev_iload_n (j := 3) dX12_comes_90 rfl rfl ?_
        refine ev_iload_n (j := 2) dX12_comes_91 rfl rfl ?_
        refine ev_iast dX12_comes_92 dm8_6 ar8_6 (by decide) s35 s36 ?_
        refine ev_aload_n (j := 0) dX12_comes_93 rfl rfl ?_
        refine ev_dup dX12_comes_94 rfl ?_
        refine ev_get frX12_201 dX12_comes_95 dm8_0 en8_0 rfl ?_
        refine ev_topI (b := M 8 0 0 10) rfl ?_
        refine ev_iconst dX12_comes_98 ?_
        refine ev_iadd dX12_comes_99 ?_
        refine ev_put fwX12_201 dX12_comes_100 dm8_0 en8_0 rfl rfl rfl (Nat.le_of_ble_eq_true rfl) ?_
        obtain ⟨M38, e40⟩ : ∃ M38 : Mem, M38 = wr (wr (wr M 8 0 5 v3 v1) 8 0 6 v3 v2) 8 0 0 10 ((M 8 0 0 10) + 1) := ⟨_, rfl⟩
        have h39 := h37 _ e40
        refine ev_mem e40 ?_
        exact ev_vret dX12_comes_103 (by decide) rfl h39
      · have h41 := h32 c33
        refine ev_aload_n (j := 0) dX12_comes_33 rfl rfl ?_
        refine ev_get frX12_25 dX12_comes_34 dm8_0 en8_0 rfl ?_
        refine ev_iload_n (j := 3) dX12_comes_37 rfl rfl ?_
        refine ev_iconst dX12_comes_38 ?_
        refine ev_isub dX12_comes_39 ?_
        refine ev_iald dX12_comes_40 dm8_6 ar8_6 (by decide) s14 s15 ?_
        refine ev_iload_n (j := 2) dX12_comes_41 rfl rfl ?_
        obtain ⟨s42, s43, h44⟩ := h41
        obtain ⟨h45, h46⟩ := h44
        refine ev_icmp_le 79 dX12_comes_42 (by decide) s42 s43 (fun c47 => ?_) (fun c47 => ?_)
        · have h48 := h45 c47
          refine ev_aload_n (j := 0) dX12_comes_79 rfl rfl ?_
          refine ev_get frX12_22 dX12_comes_80 dm8_0 en8_0 rfl ?_
          refine ev_iload_n (j := 3) dX12_comes_83 rfl rfl ?_
          refine ev_iload_n (j := 1) dX12_comes_84 rfl rfl ?_
          obtain ⟨s49, s50, h51⟩ := h48
          refine ev_iast dX12_comes_85 dm8_5 ar8_5 (by decide) s49 s50 ?_
          refine ev_aload_n (j := 0) dX12_comes_86 rfl rfl ?_
          refine ev_get frX12_25 dX12_comes_87 dm8_0 en8_0 rfl ?_
          refine ev_iload_n (j := 3) dX12_comes_90 rfl rfl ?_
          refine ev_iload_n (j := 2) dX12_comes_91 rfl rfl ?_
          refine ev_iast dX12_comes_92 dm8_6 ar8_6 (by decide) s49 s50 ?_
          refine ev_aload_n (j := 0) dX12_comes_93 rfl rfl ?_
          refine ev_dup dX12_comes_94 rfl ?_
          refine ev_get frX12_201 dX12_comes_95 dm8_0 en8_0 rfl ?_
          refine ev_topI (b := M 8 0 0 10) rfl ?_
          refine ev_iconst dX12_comes_98 ?_
          refine ev_iadd dX12_comes_99 ?_
          refine ev_put fwX12_201 dX12_comes_100 dm8_0 en8_0 rfl rfl rfl (Nat.le_of_ble_eq_true rfl) ?_
          obtain ⟨M52, e54⟩ : ∃ M52 : Mem, M52 = wr (wr (wr M 8 0 5 v3 v1) 8 0 6 v3 v2) 8 0 0 10 ((M 8 0 0 10) + 1) := ⟨_, rfl⟩
          have h53 := h51 _ e54
          refine ev_mem e54 ?_
          exact ev_vret dX12_comes_103 (by decide) rfl h53
        · have h55 := h46 c47
          refine ev_aload_n (j := 0) dX12_comes_45 rfl rfl ?_
          refine ev_get frX12_22 dX12_comes_46 dm8_0 en8_0 rfl ?_
          refine ev_iload_n (j := 3) dX12_comes_49 rfl rfl ?_
          refine ev_aload_n (j := 0) dX12_comes_50 rfl rfl ?_
          refine ev_get frX12_22 dX12_comes_51 dm8_0 en8_0 rfl ?_
          refine ev_iload_n (j := 3) dX12_comes_54 rfl rfl ?_
          refine ev_iconst dX12_comes_55 ?_
          refine ev_isub dX12_comes_56 ?_
          refine ev_iald dX12_comes_57 dm8_5 ar8_5 (by decide) s14 s15 ?_
          obtain ⟨s56, s57, h58⟩ := h55
          refine ev_iast dX12_comes_58 dm8_5 ar8_5 (by decide) s56 s57 ?_
          refine ev_aload_n (j := 0) dX12_comes_59 rfl rfl ?_
          refine ev_get frX12_25 dX12_comes_60 dm8_0 en8_0 rfl ?_
          refine ev_iload_n (j := 3) dX12_comes_63 rfl rfl ?_
          refine ev_aload_n (j := 0) dX12_comes_64 rfl rfl ?_
          refine ev_get frX12_25 dX12_comes_65 dm8_0 en8_0 rfl ?_
          refine ev_iload_n (j := 3) dX12_comes_68 rfl rfl ?_
          refine ev_iconst dX12_comes_69 ?_
          refine ev_isub dX12_comes_70 ?_
          refine ev_iald dX12_comes_71 dm8_6 ar8_6 (by decide) s14 s15 ?_
          refine ev_topI (b := M 8 0 6 (v3 - 1)) rfl ?_
          refine ev_iast dX12_comes_72 dm8_6 ar8_6 (by decide) s56 s57 ?_
          obtain ⟨M59, e61⟩ : ∃ M59 : Mem, M59 = wr (wr M 8 0 5 v3 (M 8 0 5 (v3 - 1))) 8 0 6 v3 (M 8 0 6 (v3 - 1)) := ⟨_, rfl⟩
          have h60 := h58 _ e61
          refine ev_mem e61 ?_
          refine ev_iinc (j := 3) dX12_comes_73 rfl (by decide) rfl ?_
          refine ev_goto 5 dX12_comes_76 (by decide) ?_
          exact ev_sub [1, 2, 3, 0] rfl h60
def eX12_copies (G : GT) (K : List Value → Mem → Prop) (X : String → Mem → Prop) (pc : Nat) (lv : List (Nat × Value)) (st : List Value) (M : Mem) : Prop := Ex G zX12_copies 0 0 K X 0 pc lv st M
set_option maxRecDepth 20000 in
set_option maxHeartbeats 4000000 in
theorem bX12_copies {G : GT} {K : List Value → Mem → Prop} {X : String → Mem → Prop} {M : Mem} {oa : Int} (hoad : dom 8 0 oa) (hoae : ∀ r, entR G 8 0 (oa).toNat r = aI (cyG G 0) 500 r) {ob : Int} (hobd : dom 8 0 ob) (hobe : ∀ r, entR G 8 0 (ob).toNat r = aI (cyG G 0) 500 r) (h : eX12_copies G K X 2 [(1, rr G 8 0 oa), (2, rr G 8 0 ob), (3, iv 0)] [] M) : Call G 0 0 zX12_copies [rr G 8 0 0, rr G 8 0 oa, rr G 8 0 ob] M K X := by
  refine call_intro (lv := [(0, rr G 8 0 0), (1, rr G 8 0 oa), (2, rr G 8 0 ob)]) (by decide) rfl (Nat.le_of_ble_eq_true rfl) rfl ?_
  refine ev_iconst dX12_copies_0 ?_
  refine ev_istore_n dX12_copies_1 rfl (by decide) rfl ?_
  exact ev_sub [2, 3, 0] rfl h
set_option maxRecDepth 20000 in
set_option maxHeartbeats 4000000 in
theorem bX12_copies_2 {G : GT} {K : List Value → Mem → Prop} {X : String → Mem → Prop} {M : Mem} {oa : Int} (hoad : dom 8 0 oa) (hoae : ∀ r, entR G 8 0 (oa).toNat r = aI (cyG G 0) 500 r) {ob : Int} (hobd : dom 8 0 ob) (hobe : ∀ r, entR G 8 0 (ob).toNat r = aI (cyG G 0) 500 r) {v3 : Int} (h : I32 v3 ∧ ((¬ v3 < 500 → K [] M) ∧ (v3 < 500 → 0 ≤ v3 ∧ eX12_copies G K X 2 [(1, rr G 8 0 oa), (2, rr G 8 0 ob), (3, iv (v3 + 1))] [] (wr M 8 0 ob v3 (M 8 0 oa v3))))) : eX12_copies G K X 2 [(1, rr G 8 0 oa), (2, rr G 8 0 ob), (3, iv v3)] [] M := by
  show Ex G zX12_copies 0 0 K X 0 2 [(1, rr G 8 0 oa), (2, rr G 8 0 ob), (3, iv v3)] [] M
  refine ev_iload_n (j := 2) dX12_copies_2 rfl rfl ?_
  refine ev_sipush dX12_copies_3 (by decide) ?_
  obtain ⟨s1, h2⟩ := h
  obtain ⟨h3, h4⟩ := h2
  refine ev_icmp_ge 21 dX12_copies_6 (by decide) s1 ⟨by decide, by decide⟩ (fun c5 => ?_) (fun c5 => ?_)
  · have h6 := h3 c5
    exact ev_vret dX12_copies_21 (by decide) rfl h6
  · have h7 := h4 c5
    refine ev_aload_n (j := 1) dX12_copies_9 rfl rfl ?_
    refine ev_iload_n (j := 2) dX12_copies_10 rfl rfl ?_
    refine ev_aload_n (j := 0) dX12_copies_11 rfl rfl ?_
    refine ev_iload_n (j := 2) dX12_copies_12 rfl rfl ?_
    obtain ⟨s8, h9⟩ := h7
    refine ev_iald dX12_copies_13 hoad hoae (by decide) s8 c5 ?_
    refine ev_iast dX12_copies_14 hobd hobe (by decide) s8 c5 ?_
    refine ev_iinc (j := 2) dX12_copies_15 rfl (by decide) rfl ?_
    refine ev_goto 2 dX12_copies_18 (by decide) ?_
    exact ev_sub [1, 2, 0] rfl h9
def eX12_count (G : GT) (K : List Value → Mem → Prop) (X : String → Mem → Prop) (pc : Nat) (lv : List (Nat × Value)) (st : List Value) (M : Mem) : Prop := Ex G zX12_count 2 0 K X 0 pc lv st M
set_option maxRecDepth 20000 in
set_option maxHeartbeats 4000000 in
theorem bX12_count {G : GT} {K : List Value → Mem → Prop} {X : String → Mem → Prop} {M : Mem} {v1 : Int} (h : I32 v1 ∧ ((v1 = 0 → K [iv (M 8 0 1 37)] (wr M 8 0 0 7 0)) ∧ (v1 = 1 → Call G 1 0 zX12_active [rr G 8 0 0] (wr M 8 0 0 7 0) (kI (fun x15 M13 => K [iv x15] M13)) noX) ∧ (v1 = 2 → Call G 0 0 zX12_inDuties [rr G 8 0 0] (wr M 8 0 0 7 0) (kI (fun x19 M17 => K [iv x19] M17)) noX) ∧ (v1 = 3 → K [iv (M 8 0 1 160)] (wr M 8 0 0 7 0)) ∧ (v1 = 4 → Call G 0 0 zX12_onDuty [rr G 8 0 0] (wr M 8 0 0 7 0) (kI (fun x24 M22 => K [iv x24] M22)) noX) ∧ (v1 = 5 → K [iv (M 8 0 1 481)] (wr M 8 0 0 7 0)) ∧ (v1 = 6 → Call G 0 0 zX12_turns [rr G 8 0 0] (wr M 8 0 0 7 0) (kI (fun x29 M27 => K [iv x29] M27)) noX) ∧ ((v1 < 0 ∨ 6 < v1) → Call G 0 0 zX12_fails [rr G 8 0 0, iv 1] (wr M 8 0 0 7 0) (kI (fun x33 M31 => K [iv x33] M31)) noX))) : Call G 2 0 zX12_count [rr G 8 0 0, iv v1] M K X := by
  refine call_intro (lv := [(0, rr G 8 0 0), (1, iv v1)]) (by decide) rfl (Nat.le_of_ble_eq_true rfl) rfl ?_
  refine ev_aload_n (j := 0) dX12_count_0 rfl rfl ?_
  refine ev_iconst dX12_count_1 ?_
  refine ev_put fwX12_84 dX12_count_2 dm8_0 en8_0 rfl rfl rfl (Nat.le_of_ble_eq_true rfl) ?_
  refine ev_iload_n (j := 1) dX12_count_5 rfl rfl ?_
  obtain ⟨s1, h2⟩ := h
  obtain ⟨h3, h4, h5, h6, h7, h8, h9, h10⟩ := h2
  refine ev_tsw dX12_count_6 s1 (by decide) (fun j9 o9 hj9 ha9 t9 ht9 _ => ?_) (fun j9 o9 hj9 => ?_) (fun c9 t9 ht9 => ?_) (by decide)
  · have hb9 : j9 < 7 := (Array.getElem?_eq_some_iff.mp hj9).1
    rcases (show j9 = 0 ∨ j9 = 1 ∨ j9 = 2 ∨ j9 = 3 ∨ j9 = 4 ∨ j9 = 5 ∨ j9 = 6 by omega) with rfl | rfl | rfl | rfl | rfl | rfl | rfl
    · obtain rfl : o9 = (42 : Int) := (Option.some.inj (show some (42 : Int) = some o9 from hj9)).symm
      obtain rfl : t9 = 48 := by omega
      have h11 := h3 (by omega)
      refine ev_aload_n (j := 0) dX12_count_48 rfl rfl ?_
      refine ev_get frX12_7 dX12_count_49 dm8_0 en8_0 rfl ?_
      refine ev_bipush dX12_count_52 (by decide) ?_
      refine ev_iald dX12_count_54 dm8_1 ar8_1 (by decide) (by decide) (by decide) ?_
      refine ev_topI (b := M 8 0 1 37) rfl ?_
      exact ev_iret dX12_count_55 (by decide) rfl h11
    · obtain rfl : o9 = (50 : Int) := (Option.some.inj (show some (50 : Int) = some o9 from hj9)).symm
      obtain rfl : t9 = 56 := by omega
      have h12 := h4 (by omega)
      refine ev_aload_n (j := 0) dX12_count_56 rfl rfl ?_
      refine ev_callVI (As := []) (st := []) mfX12_active mlX12_188 dX12_count_57 rfl dm8_0 en8_0 rfl rfl rfl (by decide) (by decide) (by decide) (Nat.le_of_ble_eq_true rfl) (fun _ _ z => z.elim) h12 (fun x15 M13 h14 => ?_)
      exact ev_iret dX12_count_60 (by decide) rfl h14
    · obtain rfl : o9 = (55 : Int) := (Option.some.inj (show some (55 : Int) = some o9 from hj9)).symm
      obtain rfl : t9 = 61 := by omega
      have h16 := h5 (by omega)
      refine ev_aload_n (j := 0) dX12_count_61 rfl rfl ?_
      refine ev_callVI (As := []) (st := []) mfX12_inDuties mlX12_192 dX12_count_62 rfl dm8_0 en8_0 rfl rfl rfl (by decide) (by decide) (by decide) (Nat.le_of_ble_eq_true rfl) (fun _ _ z => z.elim) h16 (fun x19 M17 h18 => ?_)
      exact ev_iret dX12_count_65 (by decide) rfl h18
    · obtain rfl : o9 = (60 : Int) := (Option.some.inj (show some (60 : Int) = some o9 from hj9)).symm
      obtain rfl : t9 = 66 := by omega
      have h20 := h6 (by omega)
      refine ev_aload_n (j := 0) dX12_count_66 rfl rfl ?_
      refine ev_get frX12_7 dX12_count_67 dm8_0 en8_0 rfl ?_
      refine ev_sipush dX12_count_70 (by decide) ?_
      refine ev_iald dX12_count_73 dm8_1 ar8_1 (by decide) (by decide) (by decide) ?_
      refine ev_topI (b := M 8 0 1 160) rfl ?_
      exact ev_iret dX12_count_74 (by decide) rfl h20
    · obtain rfl : o9 = (69 : Int) := (Option.some.inj (show some (69 : Int) = some o9 from hj9)).symm
      obtain rfl : t9 = 75 := by omega
      have h21 := h7 (by omega)
      refine ev_aload_n (j := 0) dX12_count_75 rfl rfl ?_
      refine ev_callVI (As := []) (st := []) mfX12_onDuty mlX12_195 dX12_count_76 rfl dm8_0 en8_0 rfl rfl rfl (by decide) (by decide) (by decide) (Nat.le_of_ble_eq_true rfl) (fun _ _ z => z.elim) h21 (fun x24 M22 h23 => ?_)
      exact ev_iret dX12_count_79 (by decide) rfl h23
    · obtain rfl : o9 = (74 : Int) := (Option.some.inj (show some (74 : Int) = some o9 from hj9)).symm
      obtain rfl : t9 = 80 := by omega
      have h25 := h8 (by omega)
      refine ev_aload_n (j := 0) dX12_count_80 rfl rfl ?_
      refine ev_get frX12_7 dX12_count_81 dm8_0 en8_0 rfl ?_
      refine ev_sipush dX12_count_84 (by decide) ?_
      refine ev_iald dX12_count_87 dm8_1 ar8_1 (by decide) (by decide) (by decide) ?_
      refine ev_topI (b := M 8 0 1 481) rfl ?_
      exact ev_iret dX12_count_88 (by decide) rfl h25
    · obtain rfl : o9 = (83 : Int) := (Option.some.inj (show some (83 : Int) = some o9 from hj9)).symm
      obtain rfl : t9 = 89 := by omega
      have h26 := h9 (by omega)
      refine ev_aload_n (j := 0) dX12_count_89 rfl rfl ?_
      refine ev_callVI (As := []) (st := []) mfX12_turns mlX12_198 dX12_count_90 rfl dm8_0 en8_0 rfl rfl rfl (by decide) (by decide) (by decide) (Nat.le_of_ble_eq_true rfl) (fun _ _ z => z.elim) h26 (fun x29 M27 h28 => ?_)
      exact ev_iret dX12_count_93 (by decide) rfl h28
  · have hb9 : j9 < 7 := (Array.getElem?_eq_some_iff.mp hj9).1
    rcases (show j9 = 0 ∨ j9 = 1 ∨ j9 = 2 ∨ j9 = 3 ∨ j9 = 4 ∨ j9 = 5 ∨ j9 = 6 by omega) with rfl | rfl | rfl | rfl | rfl | rfl | rfl <;> (have hj8 := Option.some.inj hj9; revert hj8; intro hj8; subst hj8; decide)
  · obtain rfl : t9 = 94 := by omega
    have h30 := h10 c9
    refine ev_aload_n (j := 0) dX12_count_94 rfl rfl ?_
    refine ev_iconst dX12_count_95 ?_
    refine ev_callVI (As := [iv 1]) (st := []) mfX12_fails mlX12_146 dX12_count_96 rfl dm8_0 en8_0 rfl rfl rfl (by decide) (by decide) (by decide) (Nat.le_of_ble_eq_true rfl) (fun _ _ z => z.elim) h30 (fun x33 M31 h32 => ?_)
    exact ev_iret dX12_count_99 (by decide) rfl h32
def eX12_delay (G : GT) (K : List Value → Mem → Prop) (X : String → Mem → Prop) (pc : Nat) (lv : List (Nat × Value)) (st : List Value) (M : Mem) : Prop := Ex G zX12_delay 5 0 K X 0 pc lv st M
set_option maxRecDepth 20000 in
set_option maxHeartbeats 4000000 in
theorem bX12_delay {G : GT} {K : List Value → Mem → Prop} {X : String → Mem → Prop} {M : Mem} {v1 : Int} (h : Call G 1 0 zX12_isTrip [rr G 8 0 0, iv v1] M (kI (fun x3 M1 => I32 x3 ∧ ((x3 = 0 → K [iv 0] (wr M1 8 0 0 7 1)) ∧ (¬ x3 = 0 → Call G 4 0 zX12_runs [rr G 8 0 0] (wr M1 8 0 0 7 0) (kV (fun M11 => Call G 1 0 zX12_hasArrived [rr G 8 0 0, iv v1] M11 (kI (fun x16 M14 => I32 x16 ∧ ((x16 = 0 → Call G 0 0 zX12_fails [rr G 8 0 0, iv 2] M14 (kI (fun x25 M23 => K [iv x25] M23)) noX) ∧ (¬ x16 = 0 → Call G 2 0 zX12_delayOf [rr G 8 0 0, iv v1] M14 (kI (fun x29 M27 => K [iv x29] M27)) noX)))) noX)) noX)))) noX) : Call G 5 0 zX12_delay [rr G 8 0 0, iv v1] M K X := by
  refine call_intro (lv := [(0, rr G 8 0 0), (1, iv v1)]) (by decide) rfl (Nat.le_of_ble_eq_true rfl) rfl ?_
  refine ev_aload_n (j := 0) dX12_delay_0 rfl rfl ?_
  refine ev_aload_n (j := 0) dX12_delay_1 rfl rfl ?_
  refine ev_iload_n (j := 1) dX12_delay_2 rfl rfl ?_
  refine ev_callVI (As := [iv v1]) (st := [rr G 8 0 0]) mfX12_isTrip mlX12_169 dX12_delay_3 rfl dm8_0 en8_0 rfl rfl rfl (by decide) (by decide) (by decide) (Nat.le_of_ble_eq_true rfl) (fun _ _ z => z.elim) h (fun x3 M1 h2 => ?_)
  obtain ⟨s4, h5⟩ := h2
  obtain ⟨h6, h7⟩ := h5
  refine ev_if_eq 13 dX12_delay_6 (by decide) s4 (fun c8 => ?_) (fun c8 => ?_)
  · have h9 := h6 c8
    refine ev_iconst dX12_delay_13 ?_
    refine ev_put fwX12_84 dX12_delay_14 dm8_0 en8_0 rfl rfl rfl (Nat.le_of_ble_eq_true rfl) ?_
    refine ev_aload_n (j := 0) dX12_delay_17 rfl rfl ?_
    refine ev_get frX12_84 dX12_delay_18 dm8_0 en8_0 rfl ?_
    refine ev_topI (b := 1) rfl ?_
    refine ev_if_le 26 dX12_delay_21 (by decide) ⟨by decide, by decide⟩ (fun c9 => absurd c9 (by decide)) (fun _ => ?_)
    refine ev_iconst dX12_delay_24 ?_
    exact ev_iret dX12_delay_25 (by decide) rfl h9
  · have h10 := h7 c8
    refine ev_iconst dX12_delay_9 ?_
    refine ev_goto 14 dX12_delay_10 (by decide) ?_
    refine ev_put fwX12_84 dX12_delay_14 dm8_0 en8_0 rfl rfl rfl (Nat.le_of_ble_eq_true rfl) ?_
    refine ev_aload_n (j := 0) dX12_delay_17 rfl rfl ?_
    refine ev_get frX12_84 dX12_delay_18 dm8_0 en8_0 rfl ?_
    refine ev_topI (b := 0) rfl ?_
    refine ev_if_le 26 dX12_delay_21 (by decide) ⟨by decide, by decide⟩ (fun _ => ?_) (fun c9 => absurd c9 (by decide))
    refine ev_aload_n (j := 0) dX12_delay_26 rfl rfl ?_
    refine ev_callVV (As := []) (st := []) mfX12_runs mlX12_274 dX12_delay_27 rfl dm8_0 en8_0 rfl rfl rfl (by decide) (by decide) (by decide) (Nat.le_of_ble_eq_true rfl) (fun _ _ z => z.elim) h10 (fun M11 h12 => ?_)
    refine ev_aload_n (j := 0) dX12_delay_30 rfl rfl ?_
    refine ev_iload_n (j := 1) dX12_delay_31 rfl rfl ?_
    refine ev_callVI (As := [iv v1]) (st := []) mfX12_hasArrived mlX12_277 dX12_delay_32 rfl dm8_0 en8_0 rfl rfl rfl (by decide) (by decide) (by decide) (Nat.le_of_ble_eq_true rfl) (fun _ _ z => z.elim) h12 (fun x16 M14 h15 => ?_)
    obtain ⟨s17, h18⟩ := h15
    obtain ⟨h19, h20⟩ := h18
    refine ev_if_eq 46 dX12_delay_35 (by decide) s17 (fun c21 => ?_) (fun c21 => ?_)
    · have h22 := h19 c21
      refine ev_aload_n (j := 0) dX12_delay_46 rfl rfl ?_
      refine ev_iconst dX12_delay_47 ?_
      refine ev_callVI (As := [iv 2]) (st := []) mfX12_fails mlX12_146 dX12_delay_48 rfl dm8_0 en8_0 rfl rfl rfl (by decide) (by decide) (by decide) (Nat.le_of_ble_eq_true rfl) (fun _ _ z => z.elim) h22 (fun x25 M23 h24 => ?_)
      exact ev_iret dX12_delay_51 (by decide) rfl h24
    · have h26 := h20 c21
      refine ev_aload_n (j := 0) dX12_delay_38 rfl rfl ?_
      refine ev_iload_n (j := 1) dX12_delay_39 rfl rfl ?_
      refine ev_callVI (As := [iv v1]) (st := []) mfX12_delayOf mlX12_280 dX12_delay_40 rfl dm8_0 en8_0 rfl rfl rfl (by decide) (by decide) (by decide) (Nat.le_of_ble_eq_true rfl) (fun _ _ z => z.elim) h26 (fun x29 M27 h28 => ?_)
      refine ev_goto 51 dX12_delay_43 (by decide) ?_
      exact ev_iret dX12_delay_51 (by decide) rfl h28
def eX12_delayOf (G : GT) (K : List Value → Mem → Prop) (X : String → Mem → Prop) (pc : Nat) (lv : List (Nat × Value)) (st : List Value) (M : Mem) : Prop := Ex G zX12_delayOf 2 0 K X 0 pc lv st M
set_option maxRecDepth 20000 in
set_option maxHeartbeats 4000000 in
theorem bX12_delayOf {G : GT} {K : List Value → Mem → Prop} {X : String → Mem → Prop} {M : Mem} {v1 : Int} (h : Call G 0 0 zX12_last [rr G 8 0 0, iv v1] M (kI (fun x3 M1 => 0 ≤ (12 * v1) + x3 ∧ (12 * v1) + x3 < 360 ∧ Call G 1 0 zX12_arrives [rr G 8 0 0, iv v1] M1 (kI (fun x9 M7 => K [iv ((M1 8 0 12 ((12 * v1) + x3)) - x9)] M7)) noX)) noX) : Call G 2 0 zX12_delayOf [rr G 8 0 0, iv v1] M K X := by
  refine call_intro (lv := [(0, rr G 8 0 0), (1, iv v1)]) (by decide) rfl (Nat.le_of_ble_eq_true rfl) rfl ?_
  refine ev_aload_n (j := 0) dX12_delayOf_0 rfl rfl ?_
  refine ev_get frX12_43 dX12_delayOf_1 dm8_0 en8_0 rfl ?_
  refine ev_bipush dX12_delayOf_4 (by decide) ?_
  refine ev_iload_n (j := 1) dX12_delayOf_6 rfl rfl ?_
  refine ev_imul dX12_delayOf_7 ?_
  refine ev_aload_n (j := 0) dX12_delayOf_8 rfl rfl ?_
  refine ev_iload_n (j := 1) dX12_delayOf_9 rfl rfl ?_
  refine ev_callVI (As := [iv v1]) (st := [iv (12 * v1), rr G 8 0 12]) mfX12_last mlX12_116 dX12_delayOf_10 rfl dm8_0 en8_0 rfl rfl rfl (by decide) (by decide) (by decide) (Nat.le_of_ble_eq_true rfl) (fun _ _ z => z.elim) h (fun x3 M1 h2 => ?_)
  refine ev_iadd dX12_delayOf_13 ?_
  obtain ⟨s4, s5, h6⟩ := h2
  refine ev_iald dX12_delayOf_14 dm8_12 ar8_12 (by decide) s4 s5 ?_
  refine ev_aload_n (j := 0) dX12_delayOf_15 rfl rfl ?_
  refine ev_iload_n (j := 1) dX12_delayOf_16 rfl rfl ?_
  refine ev_callVI (As := [iv v1]) (st := [iv (M1 8 0 12 ((12 * v1) + x3))]) mfX12_arrives mlX12_123 dX12_delayOf_17 rfl dm8_0 en8_0 rfl rfl rfl (by decide) (by decide) (by decide) (Nat.le_of_ble_eq_true rfl) (fun _ _ z => z.elim) h6 (fun x9 M7 h8 => ?_)
  refine ev_isub dX12_delayOf_20 ?_
  exact ev_iret dX12_delayOf_21 (by decide) rfl h8
def eX12_departs (G : GT) (K : List Value → Mem → Prop) (X : String → Mem → Prop) (pc : Nat) (lv : List (Nat × Value)) (st : List Value) (M : Mem) : Prop := Ex G zX12_departs 0 0 K X 0 pc lv st M
set_option maxRecDepth 20000 in
set_option maxHeartbeats 4000000 in
theorem bX12_departs {G : GT} {K : List Value → Mem → Prop} {X : String → Mem → Prop} {M : Mem} {v1 : Int} (h : 0 ≤ (40 + (4 * v1)) + 2 ∧ (40 + (4 * v1)) + 2 < 500 ∧ K [iv (M 8 0 1 ((40 + (4 * v1)) + 2))] M) : Call G 0 0 zX12_departs [rr G 8 0 0, iv v1] M K X := by
  refine call_intro (lv := [(0, rr G 8 0 0), (1, iv v1)]) (by decide) rfl (Nat.le_of_ble_eq_true rfl) rfl ?_
  refine ev_aload_n (j := 0) dX12_departs_0 rfl rfl ?_
  refine ev_get frX12_7 dX12_departs_1 dm8_0 en8_0 rfl ?_
  refine ev_bipush dX12_departs_4 (by decide) ?_
  refine ev_iconst dX12_departs_6 ?_
  refine ev_iload_n (j := 1) dX12_departs_7 rfl rfl ?_
  refine ev_imul dX12_departs_8 ?_
  refine ev_iadd dX12_departs_9 ?_
  refine ev_iconst dX12_departs_10 ?_
  refine ev_iadd dX12_departs_11 ?_
  obtain ⟨s1, s2, h3⟩ := h
  refine ev_iald dX12_departs_12 dm8_1 ar8_1 (by decide) s1 s2 ?_
  exact ev_iret dX12_departs_13 (by decide) rfl h3
def eX12_departsFrom (G : GT) (K : List Value → Mem → Prop) (X : String → Mem → Prop) (pc : Nat) (lv : List (Nat × Value)) (st : List Value) (M : Mem) : Prop := Ex G zX12_departsFrom 2 0 K X 0 pc lv st M
set_option maxRecDepth 20000 in
set_option maxHeartbeats 4000000 in
theorem bX12_departsFrom {G : GT} {K : List Value → Mem → Prop} {X : String → Mem → Prop} {M : Mem} {v1 v2 v3 : Int} (h : Call G 1 0 zX12_direction [rr G 8 0 0, iv v1] M (kI (fun x3 M1 => I32 x3 ∧ I32 v2 ∧ ((¬ x3 = v2 → K [iv 0] M1) ∧ (x3 = v2 → Call G 1 0 zX12_isOnWay [rr G 8 0 0, iv v1, iv v3] M1 (kI (fun x14 M12 => I32 x14 ∧ ((x14 = 0 → K [iv 0] M12) ∧ (¬ x14 = 0 → Call G 0 0 zX12_last [rr G 8 0 0, iv v1] M12 (kI (fun x24 M22 => I32 x24 ∧ I32 v3 ∧ ((x24 = v3 → K [iv 0] M22) ∧ (¬ x24 = v3 → K [iv 1] M22)))) noX)))) noX)))) noX) : Call G 2 0 zX12_departsFrom [rr G 8 0 0, iv v1, iv v2, iv v3] M K X := by
  refine call_intro (lv := [(0, rr G 8 0 0), (1, iv v1), (2, iv v2), (3, iv v3)]) (by decide) rfl (Nat.le_of_ble_eq_true rfl) rfl ?_
  refine ev_aload_n (j := 0) dX12_departsFrom_0 rfl rfl ?_
  refine ev_iload_n (j := 1) dX12_departsFrom_1 rfl rfl ?_
  refine ev_callVI (As := [iv v1]) (st := []) mfX12_direction mlX12_176 dX12_departsFrom_2 rfl dm8_0 en8_0 rfl rfl rfl (by decide) (by decide) (by decide) (Nat.le_of_ble_eq_true rfl) (fun _ _ z => z.elim) h (fun x3 M1 h2 => ?_)
  refine ev_iload_n (j := 2) dX12_departsFrom_5 rfl rfl ?_
  obtain ⟨s4, s5, h6⟩ := h2
  obtain ⟨h7, h8⟩ := h6
  refine ev_icmp_ne 31 dX12_departsFrom_6 (by decide) s4 s5 (fun c9 => ?_) (fun c9 => ?_)
  · have h10 := h7 c9
    refine ev_iconst dX12_departsFrom_31 ?_
    exact ev_zret dX12_departsFrom_32 (by decide) rfl (by decide) h10
  · have h11 := h8 c9
    refine ev_aload_n (j := 0) dX12_departsFrom_9 rfl rfl ?_
    refine ev_iload_n (j := 1) dX12_departsFrom_10 rfl rfl ?_
    refine ev_iload_n (j := 3) dX12_departsFrom_11 rfl rfl ?_
    refine ev_callVI (As := [iv v1, iv v3]) (st := []) mfX12_isOnWay mlX12_182 dX12_departsFrom_12 rfl dm8_0 en8_0 rfl rfl rfl (by decide) (by decide) (by decide) (Nat.le_of_ble_eq_true rfl) (fun _ _ z => z.elim) h11 (fun x14 M12 h13 => ?_)
    obtain ⟨s15, h16⟩ := h13
    obtain ⟨h17, h18⟩ := h16
    refine ev_if_eq 31 dX12_departsFrom_15 (by decide) s15 (fun c19 => ?_) (fun c19 => ?_)
    · have h20 := h17 c19
      refine ev_iconst dX12_departsFrom_31 ?_
      exact ev_zret dX12_departsFrom_32 (by decide) rfl (by decide) h20
    · have h21 := h18 c19
      refine ev_aload_n (j := 0) dX12_departsFrom_18 rfl rfl ?_
      refine ev_iload_n (j := 1) dX12_departsFrom_19 rfl rfl ?_
      refine ev_callVI (As := [iv v1]) (st := []) mfX12_last mlX12_116 dX12_departsFrom_20 rfl dm8_0 en8_0 rfl rfl rfl (by decide) (by decide) (by decide) (Nat.le_of_ble_eq_true rfl) (fun _ _ z => z.elim) h21 (fun x24 M22 h23 => ?_)
      refine ev_iload_n (j := 3) dX12_departsFrom_23 rfl rfl ?_
      obtain ⟨s25, s26, h27⟩ := h23
      obtain ⟨h28, h29⟩ := h27
      refine ev_icmp_eq 31 dX12_departsFrom_24 (by decide) s25 s26 (fun c30 => ?_) (fun c30 => ?_)
      · have h31 := h28 c30
        refine ev_iconst dX12_departsFrom_31 ?_
        exact ev_zret dX12_departsFrom_32 (by decide) rfl (by decide) h31
      · have h32 := h29 c30
        refine ev_iconst dX12_departsFrom_27 ?_
        refine ev_goto 32 dX12_departsFrom_28 (by decide) ?_
        exact ev_zret dX12_departsFrom_32 (by decide) rfl (by decide) h32
def eX12_direction (G : GT) (K : List Value → Mem → Prop) (X : String → Mem → Prop) (pc : Nat) (lv : List (Nat × Value)) (st : List Value) (M : Mem) : Prop := Ex G zX12_direction 1 0 K X 0 pc lv st M
set_option maxRecDepth 20000 in
set_option maxHeartbeats 4000000 in
theorem bX12_direction {G : GT} {K : List Value → Mem → Prop} {X : String → Mem → Prop} {M : Mem} {v1 : Int} (h : Call G 0 0 zX12_first [rr G 8 0 0, iv v1] M (kI (fun x3 M1 => Call G 0 0 zX12_last [rr G 8 0 0, iv v1] M1 (kI (fun x6 M4 => I32 x3 ∧ I32 x6 ∧ ((¬ x3 < x6 → K [iv 1] M4) ∧ (x3 < x6 → K [iv 0] M4)))) noX)) noX) : Call G 1 0 zX12_direction [rr G 8 0 0, iv v1] M K X := by
  refine call_intro (lv := [(0, rr G 8 0 0), (1, iv v1)]) (by decide) rfl (Nat.le_of_ble_eq_true rfl) rfl ?_
  refine ev_aload_n (j := 0) dX12_direction_0 rfl rfl ?_
  refine ev_iload_n (j := 1) dX12_direction_1 rfl rfl ?_
  refine ev_callVI (As := [iv v1]) (st := []) mfX12_first mlX12_113 dX12_direction_2 rfl dm8_0 en8_0 rfl rfl rfl (by decide) (by decide) (by decide) (Nat.le_of_ble_eq_true rfl) (fun _ _ z => z.elim) h (fun x3 M1 h2 => ?_)
  refine ev_aload_n (j := 0) dX12_direction_5 rfl rfl ?_
  refine ev_iload_n (j := 1) dX12_direction_6 rfl rfl ?_
  refine ev_callVI (As := [iv v1]) (st := [iv x3]) mfX12_last mlX12_116 dX12_direction_7 rfl dm8_0 en8_0 rfl rfl rfl (by decide) (by decide) (by decide) (Nat.le_of_ble_eq_true rfl) (fun _ _ z => z.elim) h2 (fun x6 M4 h5 => ?_)
  obtain ⟨s7, s8, h9⟩ := h5
  obtain ⟨h10, h11⟩ := h9
  refine ev_icmp_ge 17 dX12_direction_10 (by decide) s7 s8 (fun c12 => ?_) (fun c12 => ?_)
  · have h13 := h10 c12
    refine ev_iconst dX12_direction_17 ?_
    exact ev_iret dX12_direction_18 (by decide) rfl h13
  · have h14 := h11 c12
    refine ev_iconst dX12_direction_13 ?_
    refine ev_goto 18 dX12_direction_14 (by decide) ?_
    exact ev_iret dX12_direction_18 (by decide) rfl h14
def eX12_duty (G : GT) (K : List Value → Mem → Prop) (X : String → Mem → Prop) (pc : Nat) (lv : List (Nat × Value)) (st : List Value) (M : Mem) : Prop := Ex G zX12_duty 2 0 K X 0 pc lv st M
set_option maxRecDepth 20000 in
set_option maxHeartbeats 4000000 in
theorem bX12_duty {G : GT} {K : List Value → Mem → Prop} {X : String → Mem → Prop} {M : Mem} {v1 v2 : Int} (h : Call G 1 0 zX12_isVehicle [rr G 8 0 0, iv v1] M (kI (fun x3 M1 => I32 x3 ∧ ((x3 = 0 → K [iv 0] (wr M1 8 0 0 7 1)) ∧ (¬ x3 = 0 → 0 ≤ 171 + v1 ∧ 171 + v1 < 500 ∧ Call G 0 0 zX12_in [iv v2, iv 0, iv ((M1 8 0 1 (171 + v1)) - 1)] M1 (kI (fun x16 M14 => I32 x16 ∧ ((x16 = 0 → K [iv 0] (wr M14 8 0 0 7 2)) ∧ (¬ x16 = 0 → Call G 0 0 zX12_dutyAt [rr G 8 0 0, iv v1, iv v2] (wr M14 8 0 0 7 0) (kI (fun x26 M24 => K [iv x26] M24)) noX)))) noX)))) noX) : Call G 2 0 zX12_duty [rr G 8 0 0, iv v1, iv v2] M K X := by
  refine call_intro (lv := [(0, rr G 8 0 0), (1, iv v1), (2, iv v2)]) (by decide) rfl (Nat.le_of_ble_eq_true rfl) rfl ?_
  refine ev_aload_n (j := 0) dX12_duty_0 rfl rfl ?_
  refine ev_aload_n (j := 0) dX12_duty_1 rfl rfl ?_
  refine ev_iload_n (j := 1) dX12_duty_2 rfl rfl ?_
  refine ev_callVI (As := [iv v1]) (st := [rr G 8 0 0]) mfX12_isVehicle mlX12_220 dX12_duty_3 rfl dm8_0 en8_0 rfl rfl rfl (by decide) (by decide) (by decide) (Nat.le_of_ble_eq_true rfl) (fun _ _ z => z.elim) h (fun x3 M1 h2 => ?_)
  obtain ⟨s4, h5⟩ := h2
  obtain ⟨h6, h7⟩ := h5
  refine ev_if_eq 37 dX12_duty_6 (by decide) s4 (fun c8 => ?_) (fun c8 => ?_)
  · have h9 := h6 c8
    refine ev_iconst dX12_duty_37 ?_
    refine ev_put fwX12_84 dX12_duty_38 dm8_0 en8_0 rfl rfl rfl (Nat.le_of_ble_eq_true rfl) ?_
    refine ev_aload_n (j := 0) dX12_duty_41 rfl rfl ?_
    refine ev_get frX12_84 dX12_duty_42 dm8_0 en8_0 rfl ?_
    refine ev_topI (b := 1) rfl ?_
    refine ev_if_le 52 dX12_duty_45 (by decide) ⟨by decide, by decide⟩ (fun c9 => absurd c9 (by decide)) (fun _ => ?_)
    refine ev_iconst dX12_duty_48 ?_
    refine ev_goto 58 dX12_duty_49 (by decide) ?_
    exact ev_iret dX12_duty_58 (by decide) rfl h9
  · have h10 := h7 c8
    refine ev_iload_n (j := 2) dX12_duty_9 rfl rfl ?_
    refine ev_iconst dX12_duty_10 ?_
    refine ev_aload_n (j := 0) dX12_duty_11 rfl rfl ?_
    refine ev_get frX12_7 dX12_duty_12 dm8_0 en8_0 rfl ?_
    refine ev_sipush dX12_duty_15 (by decide) ?_
    refine ev_iload_n (j := 1) dX12_duty_18 rfl rfl ?_
    refine ev_iadd dX12_duty_19 ?_
    obtain ⟨s11, s12, h13⟩ := h10
    refine ev_iald dX12_duty_20 dm8_1 ar8_1 (by decide) s11 s12 ?_
    refine ev_iconst dX12_duty_21 ?_
    refine ev_isub dX12_duty_22 ?_
    refine ev_callSI (As := [iv v2, iv 0, iv ((M1 8 0 1 (171 + v1)) - 1)]) (st := [rr G 8 0 0]) mfX12_in mlX12_87 dX12_duty_23 rfl rfl (by decide) (by decide) (by decide) (Nat.le_of_ble_eq_true rfl) (fun _ _ z => z.elim) h13 (fun x16 M14 h15 => ?_)
    obtain ⟨s17, h18⟩ := h15
    obtain ⟨h19, h20⟩ := h18
    refine ev_if_eq 33 dX12_duty_26 (by decide) s17 (fun c21 => ?_) (fun c21 => ?_)
    · have h22 := h19 c21
      refine ev_iconst dX12_duty_33 ?_
      refine ev_goto 38 dX12_duty_34 (by decide) ?_
      refine ev_put fwX12_84 dX12_duty_38 dm8_0 en8_0 rfl rfl rfl (Nat.le_of_ble_eq_true rfl) ?_
      refine ev_aload_n (j := 0) dX12_duty_41 rfl rfl ?_
      refine ev_get frX12_84 dX12_duty_42 dm8_0 en8_0 rfl ?_
      refine ev_topI (b := 2) rfl ?_
      refine ev_if_le 52 dX12_duty_45 (by decide) ⟨by decide, by decide⟩ (fun c9 => absurd c9 (by decide)) (fun _ => ?_)
      refine ev_iconst dX12_duty_48 ?_
      refine ev_goto 58 dX12_duty_49 (by decide) ?_
      exact ev_iret dX12_duty_58 (by decide) rfl h22
    · have h23 := h20 c21
      refine ev_iconst dX12_duty_29 ?_
      refine ev_goto 38 dX12_duty_30 (by decide) ?_
      refine ev_put fwX12_84 dX12_duty_38 dm8_0 en8_0 rfl rfl rfl (Nat.le_of_ble_eq_true rfl) ?_
      refine ev_aload_n (j := 0) dX12_duty_41 rfl rfl ?_
      refine ev_get frX12_84 dX12_duty_42 dm8_0 en8_0 rfl ?_
      refine ev_topI (b := 0) rfl ?_
      refine ev_if_le 52 dX12_duty_45 (by decide) ⟨by decide, by decide⟩ (fun _ => ?_) (fun c9 => absurd c9 (by decide))
      refine ev_aload_n (j := 0) dX12_duty_52 rfl rfl ?_
      refine ev_iload_n (j := 1) dX12_duty_53 rfl rfl ?_
      refine ev_iload_n (j := 2) dX12_duty_54 rfl rfl ?_
      refine ev_callVI (As := [iv v1, iv v2]) (st := []) mfX12_dutyAt mlX12_126 dX12_duty_55 rfl dm8_0 en8_0 rfl rfl rfl (by decide) (by decide) (by decide) (Nat.le_of_ble_eq_true rfl) (fun _ _ z => z.elim) h23 (fun x26 M24 h25 => ?_)
      exact ev_iret dX12_duty_58 (by decide) rfl h25
def eX12_dutyAt (G : GT) (K : List Value → Mem → Prop) (X : String → Mem → Prop) (pc : Nat) (lv : List (Nat × Value)) (st : List Value) (M : Mem) : Prop := Ex G zX12_dutyAt 0 0 K X 0 pc lv st M
set_option maxRecDepth 20000 in
set_option maxHeartbeats 4000000 in
theorem bX12_dutyAt {G : GT} {K : List Value → Mem → Prop} {X : String → Mem → Prop} {M : Mem} {v1 v2 : Int} (h : 0 ≤ (181 + (30 * v1)) + v2 ∧ (181 + (30 * v1)) + v2 < 500 ∧ K [iv (M 8 0 1 ((181 + (30 * v1)) + v2))] M) : Call G 0 0 zX12_dutyAt [rr G 8 0 0, iv v1, iv v2] M K X := by
  refine call_intro (lv := [(0, rr G 8 0 0), (1, iv v1), (2, iv v2)]) (by decide) rfl (Nat.le_of_ble_eq_true rfl) rfl ?_
  refine ev_aload_n (j := 0) dX12_dutyAt_0 rfl rfl ?_
  refine ev_get frX12_7 dX12_dutyAt_1 dm8_0 en8_0 rfl ?_
  refine ev_sipush dX12_dutyAt_4 (by decide) ?_
  refine ev_bipush dX12_dutyAt_7 (by decide) ?_
  refine ev_iload_n (j := 1) dX12_dutyAt_9 rfl rfl ?_
  refine ev_imul dX12_dutyAt_10 ?_
  refine ev_iadd dX12_dutyAt_11 ?_
  refine ev_iload_n (j := 2) dX12_dutyAt_12 rfl rfl ?_
  refine ev_iadd dX12_dutyAt_13 ?_
  obtain ⟨s1, s2, h3⟩ := h
  refine ev_iald dX12_dutyAt_14 dm8_1 ar8_1 (by decide) s1 s2 ?_
  exact ev_iret dX12_dutyAt_15 (by decide) rfl h3
def eX12_earliest (G : GT) (K : List Value → Mem → Prop) (X : String → Mem → Prop) (pc : Nat) (lv : List (Nat × Value)) (st : List Value) (M : Mem) : Prop := Ex G zX12_earliest 1 0 K X 0 pc lv st M
set_option maxRecDepth 20000 in
set_option maxHeartbeats 4000000 in
theorem bX12_earliest {G : GT} {K : List Value → Mem → Prop} {X : String → Mem → Prop} {M : Mem} (h : eX12_earliest G K X 4 [(0, rr G 8 0 0), (1, iv (-1)), (2, iv 0)] [] M) : Call G 1 0 zX12_earliest [rr G 8 0 0] M K X := by
  refine call_intro (lv := [(0, rr G 8 0 0)]) (by decide) rfl (Nat.le_of_ble_eq_true rfl) rfl ?_
  refine ev_iconst dX12_earliest_0 ?_
  refine ev_istore_n dX12_earliest_1 rfl (by decide) rfl ?_
  refine ev_iconst dX12_earliest_2 ?_
  refine ev_istore_n dX12_earliest_3 rfl (by decide) rfl ?_
  exact ev_sub [2, 1, 0] rfl h
set_option maxRecDepth 20000 in
set_option maxHeartbeats 4000000 in
theorem bX12_earliest_4 {G : GT} {K : List Value → Mem → Prop} {X : String → Mem → Prop} {M : Mem} {v1 v2 : Int} (h : I32 v2 ∧ I32 (M 8 0 1 160) ∧ ((¬ v2 < (M 8 0 1 160) → K [iv v1] M) ∧ (v2 < (M 8 0 1 160) → 0 ≤ v2 ∧ v2 < 10 ∧ I32 (M 8 0 8 v2) ∧ (((M 8 0 8 v2) < 0 → eX12_earliest G K X 4 [(0, rr G 8 0 0), (1, iv v1), (2, iv (v2 + 1))] [] M) ∧ (¬ (M 8 0 8 v2) < 0 → I32 v1 ∧ ((v1 < 0 → eX12_earliest G K X 4 [(0, rr G 8 0 0), (1, iv v2), (2, iv (v2 + 1))] [] M) ∧ (¬ v1 < 0 → 0 ≤ v1 ∧ v1 < 10 ∧ I32 (M 8 0 10 v2) ∧ I32 (M 8 0 10 v1) ∧ (((M 8 0 10 v2) < (M 8 0 10 v1) → eX12_earliest G K X 4 [(0, rr G 8 0 0), (1, iv v2), (2, iv (v2 + 1))] [] M) ∧ (¬ (M 8 0 10 v2) < (M 8 0 10 v1) → ((¬ (M 8 0 10 v2) = (M 8 0 10 v1) → eX12_earliest G K X 4 [(0, rr G 8 0 0), (1, iv v1), (2, iv (v2 + 1))] [] M) ∧ ((M 8 0 10 v2) = (M 8 0 10 v1) → Call G 0 0 zX12_dutyAt [rr G 8 0 0, iv v2, iv (M 8 0 8 v2)] M (kI (fun x44 M42 => Call G 0 0 zX12_dutyAt [rr G 8 0 0, iv v1, iv (M42 8 0 8 v1)] M42 (kI (fun x47 M45 => I32 x44 ∧ I32 x47 ∧ ((¬ x44 < x47 → eX12_earliest G K X 4 [(0, rr G 8 0 0), (1, iv v1), (2, iv (v2 + 1))] [] M45) ∧ (x44 < x47 → eX12_earliest G K X 4 [(0, rr G 8 0 0), (1, iv v2), (2, iv (v2 + 1))] [] M45)))) noX)) noX))))))))))) : eX12_earliest G K X 4 [(0, rr G 8 0 0), (1, iv v1), (2, iv v2)] [] M := by
  show Ex G zX12_earliest 1 0 K X 0 4 [(0, rr G 8 0 0), (1, iv v1), (2, iv v2)] [] M
  refine ev_iload_n (j := 2) dX12_earliest_4 rfl rfl ?_
  refine ev_aload_n (j := 0) dX12_earliest_5 rfl rfl ?_
  refine ev_get frX12_7 dX12_earliest_6 dm8_0 en8_0 rfl ?_
  refine ev_sipush dX12_earliest_9 (by decide) ?_
  refine ev_iald dX12_earliest_12 dm8_1 ar8_1 (by decide) (by decide) (by decide) ?_
  obtain ⟨s1, s2, h3⟩ := h
  obtain ⟨h4, h5⟩ := h3
  refine ev_icmp_ge 106 dX12_earliest_13 (by decide) s1 s2 (fun c6 => ?_) (fun c6 => ?_)
  · have h7 := h4 c6
    refine ev_iload_n (j := 1) dX12_earliest_106 rfl rfl ?_
    exact ev_iret dX12_earliest_107 (by decide) rfl h7
  · have h8 := h5 c6
    refine ev_aload_n (j := 0) dX12_earliest_16 rfl rfl ?_
    refine ev_get frX12_31 dX12_earliest_17 dm8_0 en8_0 rfl ?_
    refine ev_iload_n (j := 2) dX12_earliest_20 rfl rfl ?_
    obtain ⟨s9, s10, h11⟩ := h8
    refine ev_iald dX12_earliest_21 dm8_8 ar8_8 (by decide) s9 s10 ?_
    obtain ⟨s12, h13⟩ := h11
    obtain ⟨h14, h15⟩ := h13
    refine ev_if_lt 88 dX12_earliest_22 (by decide) s12 (fun c16 => ?_) (fun c16 => ?_)
    · have h17 := h14 c16
      refine ev_iconst dX12_earliest_88 ?_
      refine ev_istore_n dX12_earliest_89 rfl (by decide) rfl ?_
      refine ev_iload_n (j := 0) dX12_earliest_90 rfl rfl ?_
      refine ev_if_eq 98 dX12_earliest_91 (by decide) ⟨by decide, by decide⟩ (fun _ => ?_) (fun c9 => absurd c9 (by decide))
      refine ev_iload_n (j := 2) dX12_earliest_98 rfl rfl ?_
      refine ev_istore_n dX12_earliest_99 rfl (by decide) rfl ?_
      refine ev_iinc (j := 3) dX12_earliest_100 rfl (by decide) rfl ?_
      refine ev_goto 4 dX12_earliest_103 (by decide) ?_
      exact ev_sub [3, 1, 0] rfl h17
    · have h18 := h15 c16
      refine ev_iload_n (j := 1) dX12_earliest_25 rfl rfl ?_
      obtain ⟨s19, h20⟩ := h18
      obtain ⟨h21, h22⟩ := h20
      refine ev_if_lt 84 dX12_earliest_26 (by decide) s19 (fun c23 => ?_) (fun c23 => ?_)
      · have h24 := h21 c23
        refine ev_iconst dX12_earliest_84 ?_
        refine ev_goto 89 dX12_earliest_85 (by decide) ?_
        refine ev_istore_n dX12_earliest_89 rfl (by decide) rfl ?_
        refine ev_iload_n (j := 0) dX12_earliest_90 rfl rfl ?_
        refine ev_if_eq 98 dX12_earliest_91 (by decide) ⟨by decide, by decide⟩ (fun c9 => absurd c9 (by decide)) (fun _ => ?_)
        refine ev_iload_n (j := 3) dX12_earliest_94 rfl rfl ?_
        refine ev_goto 99 dX12_earliest_95 (by decide) ?_
        refine ev_istore_n dX12_earliest_99 rfl (by decide) rfl ?_
        refine ev_iinc (j := 3) dX12_earliest_100 rfl (by decide) rfl ?_
        refine ev_goto 4 dX12_earliest_103 (by decide) ?_
        exact ev_sub [3, 1, 0] rfl h24
      · have h25 := h22 c23
        refine ev_aload_n (j := 0) dX12_earliest_29 rfl rfl ?_
        refine ev_get frX12_37 dX12_earliest_30 dm8_0 en8_0 rfl ?_
        refine ev_iload_n (j := 2) dX12_earliest_33 rfl rfl ?_
        refine ev_iald dX12_earliest_34 dm8_10 ar8_10 (by decide) s9 s10 ?_
        refine ev_aload_n (j := 0) dX12_earliest_35 rfl rfl ?_
        refine ev_get frX12_37 dX12_earliest_36 dm8_0 en8_0 rfl ?_
        refine ev_iload_n (j := 1) dX12_earliest_39 rfl rfl ?_
        obtain ⟨s26, s27, h28⟩ := h25
        refine ev_iald dX12_earliest_40 dm8_10 ar8_10 (by decide) s26 s27 ?_
        obtain ⟨s29, s30, h31⟩ := h28
        obtain ⟨h32, h33⟩ := h31
        refine ev_icmp_lt 84 dX12_earliest_41 (by decide) s29 s30 (fun c34 => ?_) (fun c34 => ?_)
        · have h35 := h32 c34
          refine ev_iconst dX12_earliest_84 ?_
          refine ev_goto 89 dX12_earliest_85 (by decide) ?_
          refine ev_istore_n dX12_earliest_89 rfl (by decide) rfl ?_
          refine ev_iload_n (j := 0) dX12_earliest_90 rfl rfl ?_
          refine ev_if_eq 98 dX12_earliest_91 (by decide) ⟨by decide, by decide⟩ (fun c9 => absurd c9 (by decide)) (fun _ => ?_)
          refine ev_iload_n (j := 3) dX12_earliest_94 rfl rfl ?_
          refine ev_goto 99 dX12_earliest_95 (by decide) ?_
          refine ev_istore_n dX12_earliest_99 rfl (by decide) rfl ?_
          refine ev_iinc (j := 3) dX12_earliest_100 rfl (by decide) rfl ?_
          refine ev_goto 4 dX12_earliest_103 (by decide) ?_
          exact ev_sub [3, 1, 0] rfl h35
        · have h36 := h33 c34
          refine ev_aload_n (j := 0) dX12_earliest_44 rfl rfl ?_
          refine ev_get frX12_37 dX12_earliest_45 dm8_0 en8_0 rfl ?_
          refine ev_iload_n (j := 2) dX12_earliest_48 rfl rfl ?_
          refine ev_iald dX12_earliest_49 dm8_10 ar8_10 (by decide) s9 s10 ?_
          refine ev_aload_n (j := 0) dX12_earliest_50 rfl rfl ?_
          refine ev_get frX12_37 dX12_earliest_51 dm8_0 en8_0 rfl ?_
          refine ev_iload_n (j := 1) dX12_earliest_54 rfl rfl ?_
          refine ev_iald dX12_earliest_55 dm8_10 ar8_10 (by decide) s26 s27 ?_
          obtain ⟨h37, h38⟩ := h36
          refine ev_icmp_ne 88 dX12_earliest_56 (by decide) s29 s30 (fun c39 => ?_) (fun c39 => ?_)
          · have h40 := h37 c39
            refine ev_iconst dX12_earliest_88 ?_
            refine ev_istore_n dX12_earliest_89 rfl (by decide) rfl ?_
            refine ev_iload_n (j := 0) dX12_earliest_90 rfl rfl ?_
            refine ev_if_eq 98 dX12_earliest_91 (by decide) ⟨by decide, by decide⟩ (fun _ => ?_) (fun c9 => absurd c9 (by decide))
            refine ev_iload_n (j := 2) dX12_earliest_98 rfl rfl ?_
            refine ev_istore_n dX12_earliest_99 rfl (by decide) rfl ?_
            refine ev_iinc (j := 3) dX12_earliest_100 rfl (by decide) rfl ?_
            refine ev_goto 4 dX12_earliest_103 (by decide) ?_
            exact ev_sub [3, 1, 0] rfl h40
          · have h41 := h38 c39
            refine ev_aload_n (j := 0) dX12_earliest_59 rfl rfl ?_
            refine ev_iload_n (j := 2) dX12_earliest_60 rfl rfl ?_
            refine ev_aload_n (j := 0) dX12_earliest_61 rfl rfl ?_
            refine ev_get frX12_31 dX12_earliest_62 dm8_0 en8_0 rfl ?_
            refine ev_iload_n (j := 2) dX12_earliest_65 rfl rfl ?_
            refine ev_iald dX12_earliest_66 dm8_8 ar8_8 (by decide) s9 s10 ?_
            refine ev_callVI (As := [iv v2, iv (M 8 0 8 v2)]) (st := []) mfX12_dutyAt mlX12_126 dX12_earliest_67 rfl dm8_0 en8_0 rfl rfl rfl (by decide) (by decide) (by decide) (Nat.le_of_ble_eq_true rfl) (fun _ _ z => z.elim) h41 (fun x44 M42 h43 => ?_)
            refine ev_aload_n (j := 0) dX12_earliest_70 rfl rfl ?_
            refine ev_iload_n (j := 1) dX12_earliest_71 rfl rfl ?_
            refine ev_aload_n (j := 0) dX12_earliest_72 rfl rfl ?_
            refine ev_get frX12_31 dX12_earliest_73 dm8_0 en8_0 rfl ?_
            refine ev_iload_n (j := 1) dX12_earliest_76 rfl rfl ?_
            refine ev_iald dX12_earliest_77 dm8_8 ar8_8 (by decide) s26 s27 ?_
            refine ev_callVI (As := [iv v1, iv (M42 8 0 8 v1)]) (st := [iv x44]) mfX12_dutyAt mlX12_126 dX12_earliest_78 rfl dm8_0 en8_0 rfl rfl rfl (by decide) (by decide) (by decide) (Nat.le_of_ble_eq_true rfl) (fun _ _ z => z.elim) h43 (fun x47 M45 h46 => ?_)
            obtain ⟨s48, s49, h50⟩ := h46
            obtain ⟨h51, h52⟩ := h50
            refine ev_icmp_ge 88 dX12_earliest_81 (by decide) s48 s49 (fun c53 => ?_) (fun c53 => ?_)
            · have h54 := h51 c53
              refine ev_iconst dX12_earliest_88 ?_
              refine ev_istore_n dX12_earliest_89 rfl (by decide) rfl ?_
              refine ev_iload_n (j := 0) dX12_earliest_90 rfl rfl ?_
              refine ev_if_eq 98 dX12_earliest_91 (by decide) ⟨by decide, by decide⟩ (fun _ => ?_) (fun c9 => absurd c9 (by decide))
              refine ev_iload_n (j := 2) dX12_earliest_98 rfl rfl ?_
              refine ev_istore_n dX12_earliest_99 rfl (by decide) rfl ?_
              refine ev_iinc (j := 3) dX12_earliest_100 rfl (by decide) rfl ?_
              refine ev_goto 4 dX12_earliest_103 (by decide) ?_
              exact ev_sub [3, 1, 0] rfl h54
            · have h55 := h52 c53
              refine ev_iconst dX12_earliest_84 ?_
              refine ev_goto 89 dX12_earliest_85 (by decide) ?_
              refine ev_istore_n dX12_earliest_89 rfl (by decide) rfl ?_
              refine ev_iload_n (j := 0) dX12_earliest_90 rfl rfl ?_
              refine ev_if_eq 98 dX12_earliest_91 (by decide) ⟨by decide, by decide⟩ (fun c9 => absurd c9 (by decide)) (fun _ => ?_)
              refine ev_iload_n (j := 3) dX12_earliest_94 rfl rfl ?_
              refine ev_goto 99 dX12_earliest_95 (by decide) ?_
              refine ev_istore_n dX12_earliest_99 rfl (by decide) rfl ?_
              refine ev_iinc (j := 3) dX12_earliest_100 rfl (by decide) rfl ?_
              refine ev_goto 4 dX12_earliest_103 (by decide) ?_
              exact ev_sub [3, 1, 0] rfl h55
def eX12_endOf (G : GT) (K : List Value → Mem → Prop) (X : String → Mem → Prop) (pc : Nat) (lv : List (Nat × Value)) (st : List Value) (M : Mem) : Prop := Ex G zX12_endOf 2 0 K X 0 pc lv st M
set_option maxRecDepth 20000 in
set_option maxHeartbeats 4000000 in
theorem bX12_endOf {G : GT} {K : List Value → Mem → Prop} {X : String → Mem → Prop} {M : Mem} {v1 : Int} (h : 0 ≤ 171 + v1 ∧ 171 + v1 < 500 ∧ Call G 0 0 zX12_dutyAt [rr G 8 0 0, iv v1, iv ((M 8 0 1 (171 + v1)) - 1)] M (kI (fun x6 M4 => Call G 1 0 zX12_arrives [rr G 8 0 0, iv x6] M4 (kI (fun x9 M7 => K [iv x9] M7)) noX)) noX) : Call G 2 0 zX12_endOf [rr G 8 0 0, iv v1] M K X := by
  refine call_intro (lv := [(0, rr G 8 0 0), (1, iv v1)]) (by decide) rfl (Nat.le_of_ble_eq_true rfl) rfl ?_
  refine ev_aload_n (j := 0) dX12_endOf_0 rfl rfl ?_
  refine ev_aload_n (j := 0) dX12_endOf_1 rfl rfl ?_
  refine ev_iload_n (j := 1) dX12_endOf_2 rfl rfl ?_
  refine ev_aload_n (j := 0) dX12_endOf_3 rfl rfl ?_
  refine ev_get frX12_7 dX12_endOf_4 dm8_0 en8_0 rfl ?_
  refine ev_sipush dX12_endOf_7 (by decide) ?_
  refine ev_iload_n (j := 1) dX12_endOf_10 rfl rfl ?_
  refine ev_iadd dX12_endOf_11 ?_
  obtain ⟨s1, s2, h3⟩ := h
  refine ev_iald dX12_endOf_12 dm8_1 ar8_1 (by decide) s1 s2 ?_
  refine ev_iconst dX12_endOf_13 ?_
  refine ev_isub dX12_endOf_14 ?_
  refine ev_callVI (As := [iv v1, iv ((M 8 0 1 (171 + v1)) - 1)]) (st := [rr G 8 0 0]) mfX12_dutyAt mlX12_126 dX12_endOf_15 rfl dm8_0 en8_0 rfl rfl rfl (by decide) (by decide) (by decide) (Nat.le_of_ble_eq_true rfl) (fun _ _ z => z.elim) h3 (fun x6 M4 h5 => ?_)
  refine ev_callVI (As := [iv x6]) (st := []) mfX12_arrives mlX12_123 dX12_endOf_18 rfl dm8_0 en8_0 rfl rfl rfl (by decide) (by decide) (by decide) (Nat.le_of_ble_eq_true rfl) (fun _ _ z => z.elim) h5 (fun x9 M7 h8 => ?_)
  exact ev_iret dX12_endOf_21 (by decide) rfl h8
def eX12_exchange (G : GT) (K : List Value → Mem → Prop) (X : String → Mem → Prop) (pc : Nat) (lv : List (Nat × Value)) (st : List Value) (M : Mem) : Prop := Ex G zX12_exchange 5 0 K X 0 pc lv st M
set_option maxRecDepth 20000 in
set_option maxHeartbeats 4000000 in
theorem bX12_exchange {G : GT} {K : List Value → Mem → Prop} {X : String → Mem → Prop} {M : Mem} {v1 v2 v3 : Int} (h : Call G 1 0 zX12_isVehicle [rr G 8 0 0, iv v1] M (kI (fun x3 M1 => I32 x3 ∧ ((x3 = 0 → K [iv 0] (wr M1 8 0 0 7 1)) ∧ (¬ x3 = 0 → Call G 1 0 zX12_isVehicle [rr G 8 0 0, iv v2] M1 (kI (fun x13 M11 => I32 x13 ∧ ((x13 = 0 → K [iv 0] (wr M11 8 0 0 7 1)) ∧ (¬ x13 = 0 → I32 v1 ∧ I32 v2 ∧ ((¬ v1 = v2 → Call G 1 0 zX12_begins [rr G 8 0 0] (wr M11 8 0 0 7 0) (kV (fun M28 => eX12_exchange G K X 50 [(0, rr G 8 0 0), (1, iv v1), (2, iv v2), (3, iv v3), (4, iv 0)] [] M28)) noX) ∧ (v1 = v2 → K [iv 0] (wr M11 8 0 0 7 2))))))) noX)))) noX) : Call G 5 0 zX12_exchange [rr G 8 0 0, iv v1, iv v2, iv v3] M K X := by
  refine call_intro (lv := [(0, rr G 8 0 0), (1, iv v1), (2, iv v2), (3, iv v3)]) (by decide) rfl (Nat.le_of_ble_eq_true rfl) rfl ?_
  refine ev_aload_n (j := 0) dX12_exchange_0 rfl rfl ?_
  refine ev_aload_n (j := 0) dX12_exchange_1 rfl rfl ?_
  refine ev_iload_n (j := 1) dX12_exchange_2 rfl rfl ?_
  refine ev_callVI (As := [iv v1]) (st := [rr G 8 0 0]) mfX12_isVehicle mlX12_220 dX12_exchange_3 rfl dm8_0 en8_0 rfl rfl rfl (by decide) (by decide) (by decide) (Nat.le_of_ble_eq_true rfl) (fun _ _ z => z.elim) h (fun x3 M1 h2 => ?_)
  obtain ⟨s4, h5⟩ := h2
  obtain ⟨h6, h7⟩ := h5
  refine ev_if_eq 30 dX12_exchange_6 (by decide) s4 (fun c8 => ?_) (fun c8 => ?_)
  · have h9 := h6 c8
    refine ev_iconst dX12_exchange_30 ?_
    refine ev_put fwX12_84 dX12_exchange_31 dm8_0 en8_0 rfl rfl rfl (Nat.le_of_ble_eq_true rfl) ?_
    refine ev_aload_n (j := 0) dX12_exchange_34 rfl rfl ?_
    refine ev_get frX12_84 dX12_exchange_35 dm8_0 en8_0 rfl ?_
    refine ev_topI (b := 1) rfl ?_
    refine ev_if_le 43 dX12_exchange_38 (by decide) ⟨by decide, by decide⟩ (fun c9 => absurd c9 (by decide)) (fun _ => ?_)
    refine ev_iconst dX12_exchange_41 ?_
    exact ev_iret dX12_exchange_42 (by decide) rfl h9
  · have h10 := h7 c8
    refine ev_aload_n (j := 0) dX12_exchange_9 rfl rfl ?_
    refine ev_iload_n (j := 2) dX12_exchange_10 rfl rfl ?_
    refine ev_callVI (As := [iv v2]) (st := [rr G 8 0 0]) mfX12_isVehicle mlX12_220 dX12_exchange_11 rfl dm8_0 en8_0 rfl rfl rfl (by decide) (by decide) (by decide) (Nat.le_of_ble_eq_true rfl) (fun _ _ z => z.elim) h10 (fun x13 M11 h12 => ?_)
    obtain ⟨s14, h15⟩ := h12
    obtain ⟨h16, h17⟩ := h15
    refine ev_if_eq 30 dX12_exchange_14 (by decide) s14 (fun c18 => ?_) (fun c18 => ?_)
    · have h19 := h16 c18
      refine ev_iconst dX12_exchange_30 ?_
      refine ev_put fwX12_84 dX12_exchange_31 dm8_0 en8_0 rfl rfl rfl (Nat.le_of_ble_eq_true rfl) ?_
      refine ev_aload_n (j := 0) dX12_exchange_34 rfl rfl ?_
      refine ev_get frX12_84 dX12_exchange_35 dm8_0 en8_0 rfl ?_
      refine ev_topI (b := 1) rfl ?_
      refine ev_if_le 43 dX12_exchange_38 (by decide) ⟨by decide, by decide⟩ (fun c9 => absurd c9 (by decide)) (fun _ => ?_)
      refine ev_iconst dX12_exchange_41 ?_
      exact ev_iret dX12_exchange_42 (by decide) rfl h19
    · have h20 := h17 c18
      refine ev_iload_n (j := 1) dX12_exchange_17 rfl rfl ?_
      refine ev_iload_n (j := 2) dX12_exchange_18 rfl rfl ?_
      obtain ⟨s21, s22, h23⟩ := h20
      obtain ⟨h24, h25⟩ := h23
      refine ev_icmp_ne 26 dX12_exchange_19 (by decide) s21 s22 (fun c26 => ?_) (fun c26 => ?_)
      · have h27 := h24 c26
        refine ev_iconst dX12_exchange_26 ?_
        refine ev_goto 31 dX12_exchange_27 (by decide) ?_
        refine ev_put fwX12_84 dX12_exchange_31 dm8_0 en8_0 rfl rfl rfl (Nat.le_of_ble_eq_true rfl) ?_
        refine ev_aload_n (j := 0) dX12_exchange_34 rfl rfl ?_
        refine ev_get frX12_84 dX12_exchange_35 dm8_0 en8_0 rfl ?_
        refine ev_topI (b := 0) rfl ?_
        refine ev_if_le 43 dX12_exchange_38 (by decide) ⟨by decide, by decide⟩ (fun _ => ?_) (fun c9 => absurd c9 (by decide))
        refine ev_aload_n (j := 0) dX12_exchange_43 rfl rfl ?_
        refine ev_callVV (As := []) (st := []) mfX12_begins mlX12_139 dX12_exchange_44 rfl dm8_0 en8_0 rfl rfl rfl (by decide) (by decide) (by decide) (Nat.le_of_ble_eq_true rfl) (fun _ _ z => z.elim) h27 (fun M28 h29 => ?_)
        refine ev_iconst dX12_exchange_47 ?_
        refine ev_istore dX12_exchange_48 (by decide) rfl ?_
        exact ev_sub [1, 2, 3, 4, 0] rfl h29
      · have h31 := h25 c26
        refine ev_iconst dX12_exchange_22 ?_
        refine ev_goto 31 dX12_exchange_23 (by decide) ?_
        refine ev_put fwX12_84 dX12_exchange_31 dm8_0 en8_0 rfl rfl rfl (Nat.le_of_ble_eq_true rfl) ?_
        refine ev_aload_n (j := 0) dX12_exchange_34 rfl rfl ?_
        refine ev_get frX12_84 dX12_exchange_35 dm8_0 en8_0 rfl ?_
        refine ev_topI (b := 2) rfl ?_
        refine ev_if_le 43 dX12_exchange_38 (by decide) ⟨by decide, by decide⟩ (fun c9 => absurd c9 (by decide)) (fun _ => ?_)
        refine ev_iconst dX12_exchange_41 ?_
        exact ev_iret dX12_exchange_42 (by decide) rfl h31
set_option maxRecDepth 20000 in
set_option maxHeartbeats 4000000 in
theorem bX12_exchange_50 {G : GT} {K : List Value → Mem → Prop} {X : String → Mem → Prop} {M : Mem} {v1 v2 v3 v4 : Int} (h : 0 ≤ 171 + v1 ∧ 171 + v1 < 500 ∧ I32 v4 ∧ I32 (M 8 0 1 (171 + v1)) ∧ ((¬ v4 < (M 8 0 1 (171 + v1)) → eX12_exchange G K X 89 [(0, rr G 8 0 0), (1, iv v1), (2, iv v2), (3, iv v3), (4, iv v4), (5, iv 0)] [] M) ∧ (v4 < (M 8 0 1 (171 + v1)) → Call G 0 0 zX12_dutyAt [rr G 8 0 0, iv v1, iv v4] M (kI (fun x14 M12 => Call G 0 0 zX12_departs [rr G 8 0 0, iv x14] M12 (kI (fun x17 M15 => I32 x17 ∧ I32 v3 ∧ ((¬ x17 < v3 → eX12_exchange G K X 89 [(0, rr G 8 0 0), (1, iv v1), (2, iv v2), (3, iv v3), (4, iv v4), (5, iv 0)] [] M15) ∧ (x17 < v3 → eX12_exchange G K X 50 [(0, rr G 8 0 0), (1, iv v1), (2, iv v2), (3, iv v3), (4, iv (v4 + 1))] [] M15)))) noX)) noX))) : eX12_exchange G K X 50 [(0, rr G 8 0 0), (1, iv v1), (2, iv v2), (3, iv v3), (4, iv v4)] [] M := by
  show Ex G zX12_exchange 5 0 K X 0 50 [(0, rr G 8 0 0), (1, iv v1), (2, iv v2), (3, iv v3), (4, iv v4)] [] M
  refine ev_iload (j := 4) dX12_exchange_50 rfl ?_
  refine ev_aload_n (j := 0) dX12_exchange_52 rfl rfl ?_
  refine ev_get frX12_7 dX12_exchange_53 dm8_0 en8_0 rfl ?_
  refine ev_sipush dX12_exchange_56 (by decide) ?_
  refine ev_iload_n (j := 1) dX12_exchange_59 rfl rfl ?_
  refine ev_iadd dX12_exchange_60 ?_
  obtain ⟨s1, s2, h3⟩ := h
  refine ev_iald dX12_exchange_61 dm8_1 ar8_1 (by decide) s1 s2 ?_
  obtain ⟨s4, s5, h6⟩ := h3
  obtain ⟨h7, h8⟩ := h6
  refine ev_icmp_ge 86 dX12_exchange_62 (by decide) s4 s5 (fun c9 => ?_) (fun c9 => ?_)
  · have h10 := h7 c9
    refine ev_iconst dX12_exchange_86 ?_
    refine ev_istore dX12_exchange_87 (by decide) rfl ?_
    exact ev_sub [1, 2, 3, 4, 5, 0] rfl h10
  · have h11 := h8 c9
    refine ev_aload_n (j := 0) dX12_exchange_65 rfl rfl ?_
    refine ev_aload_n (j := 0) dX12_exchange_66 rfl rfl ?_
    refine ev_iload_n (j := 1) dX12_exchange_67 rfl rfl ?_
    refine ev_iload (j := 4) dX12_exchange_68 rfl ?_
    refine ev_callVI (As := [iv v1, iv v4]) (st := [rr G 8 0 0]) mfX12_dutyAt mlX12_126 dX12_exchange_70 rfl dm8_0 en8_0 rfl rfl rfl (by decide) (by decide) (by decide) (Nat.le_of_ble_eq_true rfl) (fun _ _ z => z.elim) h11 (fun x14 M12 h13 => ?_)
    refine ev_callVI (As := [iv x14]) (st := []) mfX12_departs mlX12_109 dX12_exchange_73 rfl dm8_0 en8_0 rfl rfl rfl (by decide) (by decide) (by decide) (Nat.le_of_ble_eq_true rfl) (fun _ _ z => z.elim) h13 (fun x17 M15 h16 => ?_)
    refine ev_iload_n (j := 3) dX12_exchange_76 rfl rfl ?_
    obtain ⟨s18, s19, h20⟩ := h16
    obtain ⟨h21, h22⟩ := h20
    refine ev_icmp_ge 86 dX12_exchange_77 (by decide) s18 s19 (fun c23 => ?_) (fun c23 => ?_)
    · have h24 := h21 c23
      refine ev_iconst dX12_exchange_86 ?_
      refine ev_istore dX12_exchange_87 (by decide) rfl ?_
      exact ev_sub [1, 2, 3, 4, 5, 0] rfl h24
    · have h25 := h22 c23
      refine ev_iinc (j := 4) dX12_exchange_80 rfl (by decide) rfl ?_
      refine ev_goto 50 dX12_exchange_83 (by decide) ?_
      exact ev_sub [1, 2, 3, 4, 0] rfl h25
set_option maxRecDepth 20000 in
set_option maxHeartbeats 4000000 in
theorem bX12_exchange_89 {G : GT} {K : List Value → Mem → Prop} {X : String → Mem → Prop} {M : Mem} {v1 v2 v3 v4 v5 : Int} (h : 0 ≤ 171 + v2 ∧ 171 + v2 < 500 ∧ I32 v5 ∧ I32 (M 8 0 1 (171 + v2)) ∧ ((¬ v5 < (M 8 0 1 (171 + v2)) → 0 ≤ 171 + v1 ∧ 171 + v1 < 500 ∧ eX12_exchange G K X 158 [(0, rr G 8 0 0), (1, iv v1), (2, iv v2), (4, iv v4), (5, iv v5), (6, iv ((M 8 0 1 (171 + v1)) - v4)), (7, iv ((M 8 0 1 (171 + v2)) - v5)), (8, iv 0)] [] M) ∧ (v5 < (M 8 0 1 (171 + v2)) → Call G 0 0 zX12_dutyAt [rr G 8 0 0, iv v2, iv v5] M (kI (fun x17 M15 => Call G 0 0 zX12_departs [rr G 8 0 0, iv x17] M15 (kI (fun x20 M18 => I32 x20 ∧ I32 v3 ∧ ((¬ x20 < v3 → 0 ≤ 171 + v1 ∧ 171 + v1 < 500 ∧ eX12_exchange G K X 158 [(0, rr G 8 0 0), (1, iv v1), (2, iv v2), (4, iv v4), (5, iv v5), (6, iv ((M18 8 0 1 (171 + v1)) - v4)), (7, iv ((M18 8 0 1 (171 + v2)) - v5)), (8, iv 0)] [] M18) ∧ (x20 < v3 → eX12_exchange G K X 89 [(0, rr G 8 0 0), (1, iv v1), (2, iv v2), (3, iv v3), (4, iv v4), (5, iv (v5 + 1))] [] M18)))) noX)) noX))) : eX12_exchange G K X 89 [(0, rr G 8 0 0), (1, iv v1), (2, iv v2), (3, iv v3), (4, iv v4), (5, iv v5)] [] M := by
  show Ex G zX12_exchange 5 0 K X 0 89 [(0, rr G 8 0 0), (1, iv v1), (2, iv v2), (3, iv v3), (4, iv v4), (5, iv v5)] [] M
  refine ev_iload (j := 5) dX12_exchange_89 rfl ?_
  refine ev_aload_n (j := 0) dX12_exchange_91 rfl rfl ?_
  refine ev_get frX12_7 dX12_exchange_92 dm8_0 en8_0 rfl ?_
  refine ev_sipush dX12_exchange_95 (by decide) ?_
  refine ev_iload_n (j := 2) dX12_exchange_98 rfl rfl ?_
  refine ev_iadd dX12_exchange_99 ?_
  obtain ⟨s1, s2, h3⟩ := h
  refine ev_iald dX12_exchange_100 dm8_1 ar8_1 (by decide) s1 s2 ?_
  obtain ⟨s4, s5, h6⟩ := h3
  obtain ⟨h7, h8⟩ := h6
  refine ev_icmp_ge 125 dX12_exchange_101 (by decide) s4 s5 (fun c9 => ?_) (fun c9 => ?_)
  · have h10 := h7 c9
    refine ev_aload_n (j := 0) dX12_exchange_125 rfl rfl ?_
    refine ev_get frX12_7 dX12_exchange_126 dm8_0 en8_0 rfl ?_
    refine ev_sipush dX12_exchange_129 (by decide) ?_
    refine ev_iload_n (j := 1) dX12_exchange_132 rfl rfl ?_
    refine ev_iadd dX12_exchange_133 ?_
    obtain ⟨s11, s12, h13⟩ := h10
    refine ev_iald dX12_exchange_134 dm8_1 ar8_1 (by decide) s11 s12 ?_
    refine ev_iload (j := 4) dX12_exchange_135 rfl ?_
    refine ev_isub dX12_exchange_137 ?_
    refine ev_istore dX12_exchange_138 (by decide) rfl ?_
    refine ev_aload_n (j := 1) dX12_exchange_140 rfl rfl ?_
    refine ev_get frX12_7 dX12_exchange_141 dm8_0 en8_0 rfl ?_
    refine ev_sipush dX12_exchange_144 (by decide) ?_
    refine ev_iload_n (j := 3) dX12_exchange_147 rfl rfl ?_
    refine ev_iadd dX12_exchange_148 ?_
    refine ev_iald dX12_exchange_149 dm8_1 ar8_1 (by decide) s1 s2 ?_
    refine ev_iload (j := 6) dX12_exchange_150 rfl ?_
    refine ev_isub dX12_exchange_152 ?_
    refine ev_istore dX12_exchange_153 (by decide) rfl ?_
    refine ev_iconst dX12_exchange_155 ?_
    refine ev_istore dX12_exchange_156 (by decide) rfl ?_
    exact ev_sub [3, 4, 5, 7, 8, 2, 1, 0] rfl h13
  · have h14 := h8 c9
    refine ev_aload_n (j := 0) dX12_exchange_104 rfl rfl ?_
    refine ev_aload_n (j := 0) dX12_exchange_105 rfl rfl ?_
    refine ev_iload_n (j := 2) dX12_exchange_106 rfl rfl ?_
    refine ev_iload (j := 5) dX12_exchange_107 rfl ?_
    refine ev_callVI (As := [iv v2, iv v5]) (st := [rr G 8 0 0]) mfX12_dutyAt mlX12_126 dX12_exchange_109 rfl dm8_0 en8_0 rfl rfl rfl (by decide) (by decide) (by decide) (Nat.le_of_ble_eq_true rfl) (fun _ _ z => z.elim) h14 (fun x17 M15 h16 => ?_)
    refine ev_callVI (As := [iv x17]) (st := []) mfX12_departs mlX12_109 dX12_exchange_112 rfl dm8_0 en8_0 rfl rfl rfl (by decide) (by decide) (by decide) (Nat.le_of_ble_eq_true rfl) (fun _ _ z => z.elim) h16 (fun x20 M18 h19 => ?_)
    refine ev_iload_n (j := 3) dX12_exchange_115 rfl rfl ?_
    obtain ⟨s21, s22, h23⟩ := h19
    obtain ⟨h24, h25⟩ := h23
    refine ev_icmp_ge 125 dX12_exchange_116 (by decide) s21 s22 (fun c26 => ?_) (fun c26 => ?_)
    · have h27 := h24 c26
      refine ev_aload_n (j := 0) dX12_exchange_125 rfl rfl ?_
      refine ev_get frX12_7 dX12_exchange_126 dm8_0 en8_0 rfl ?_
      refine ev_sipush dX12_exchange_129 (by decide) ?_
      refine ev_iload_n (j := 1) dX12_exchange_132 rfl rfl ?_
      refine ev_iadd dX12_exchange_133 ?_
      obtain ⟨s28, s29, h30⟩ := h27
      refine ev_iald dX12_exchange_134 dm8_1 ar8_1 (by decide) s28 s29 ?_
      refine ev_iload (j := 4) dX12_exchange_135 rfl ?_
      refine ev_isub dX12_exchange_137 ?_
      refine ev_istore dX12_exchange_138 (by decide) rfl ?_
      refine ev_aload_n (j := 1) dX12_exchange_140 rfl rfl ?_
      refine ev_get frX12_7 dX12_exchange_141 dm8_0 en8_0 rfl ?_
      refine ev_sipush dX12_exchange_144 (by decide) ?_
      refine ev_iload_n (j := 3) dX12_exchange_147 rfl rfl ?_
      refine ev_iadd dX12_exchange_148 ?_
      refine ev_iald dX12_exchange_149 dm8_1 ar8_1 (by decide) s1 s2 ?_
      refine ev_iload (j := 6) dX12_exchange_150 rfl ?_
      refine ev_isub dX12_exchange_152 ?_
      refine ev_istore dX12_exchange_153 (by decide) rfl ?_
      refine ev_iconst dX12_exchange_155 ?_
      refine ev_istore dX12_exchange_156 (by decide) rfl ?_
      exact ev_sub [3, 4, 5, 7, 8, 2, 1, 0] rfl h30
    · have h31 := h25 c26
      refine ev_iinc (j := 5) dX12_exchange_119 rfl (by decide) rfl ?_
      refine ev_goto 89 dX12_exchange_122 (by decide) ?_
      exact ev_sub [1, 2, 3, 4, 5, 0] rfl h31
set_option maxRecDepth 20000 in
set_option maxHeartbeats 4000000 in
theorem bX12_exchange_158 {G : GT} {K : List Value → Mem → Prop} {X : String → Mem → Prop} {M : Mem} {v1 v2 v4 v5 v6 v7 v8 : Int} (h : I32 v8 ∧ I32 v6 ∧ ((¬ v8 < v6 → eX12_exchange G K X 191 [(0, rr G 8 0 0), (1, iv v1), (2, iv v2), (4, iv v4), (5, iv v5), (6, iv v6), (7, iv v7), (8, iv 0)] [] M) ∧ (v8 < v6 → Call G 0 0 zX12_dutyAt [rr G 8 0 0, iv v1, iv (v4 + v8)] M (kI (fun x11 M9 => 0 ≤ v8 ∧ v8 < 30 ∧ eX12_exchange G K X 158 [(0, rr G 8 0 0), (1, iv v1), (2, iv v2), (4, iv v4), (5, iv v5), (6, iv v6), (7, iv v7), (8, iv (v8 + 1))] [] (wr M9 8 0 7 v8 x11))) noX))) : eX12_exchange G K X 158 [(0, rr G 8 0 0), (1, iv v1), (2, iv v2), (4, iv v4), (5, iv v5), (6, iv v6), (7, iv v7), (8, iv v8)] [] M := by
  show Ex G zX12_exchange 5 0 K X 0 158 [(0, rr G 8 0 0), (1, iv v1), (2, iv v2), (4, iv v4), (5, iv v5), (6, iv v6), (7, iv v7), (8, iv v8)] [] M
  refine ev_iload (j := 7) dX12_exchange_158 rfl ?_
  refine ev_iload (j := 5) dX12_exchange_160 rfl ?_
  obtain ⟨s1, s2, h3⟩ := h
  obtain ⟨h4, h5⟩ := h3
  refine ev_icmp_ge 188 dX12_exchange_162 (by decide) s1 s2 (fun c6 => ?_) (fun c6 => ?_)
  · have h7 := h4 c6
    refine ev_iconst dX12_exchange_188 ?_
    refine ev_istore dX12_exchange_189 (by decide) rfl ?_
    exact ev_sub [1, 2, 3, 4, 5, 6, 7, 0] rfl h7
  · have h8 := h5 c6
    refine ev_aload_n (j := 0) dX12_exchange_165 rfl rfl ?_
    refine ev_get frX12_28 dX12_exchange_166 dm8_0 en8_0 rfl ?_
    refine ev_iload (j := 7) dX12_exchange_169 rfl ?_
    refine ev_aload_n (j := 0) dX12_exchange_171 rfl rfl ?_
    refine ev_iload_n (j := 1) dX12_exchange_172 rfl rfl ?_
    refine ev_iload (j := 3) dX12_exchange_173 rfl ?_
    refine ev_iload (j := 7) dX12_exchange_175 rfl ?_
    refine ev_iadd dX12_exchange_177 ?_
    refine ev_callVI (As := [iv v1, iv (v4 + v8)]) (st := [iv v8, rr G 8 0 7]) mfX12_dutyAt mlX12_126 dX12_exchange_178 rfl dm8_0 en8_0 rfl rfl rfl (by decide) (by decide) (by decide) (Nat.le_of_ble_eq_true rfl) (fun _ _ z => z.elim) h8 (fun x11 M9 h10 => ?_)
    obtain ⟨s12, s13, h14⟩ := h10
    refine ev_iast dX12_exchange_181 dm8_7 ar8_7 (by decide) s12 s13 ?_
    refine ev_iinc (j := 7) dX12_exchange_182 rfl (by decide) rfl ?_
    refine ev_goto 158 dX12_exchange_185 (by decide) ?_
    exact ev_sub [1, 2, 3, 4, 5, 6, 7, 0] rfl h14
set_option maxRecDepth 20000 in
set_option maxHeartbeats 4000000 in
theorem bX12_exchange_191 {G : GT} {K : List Value → Mem → Prop} {X : String → Mem → Prop} {M : Mem} {v1 v2 v4 v5 v6 v7 v8 : Int} (h : I32 v8 ∧ I32 v7 ∧ ((¬ v8 < v7 → eX12_exchange G K X 236 [(0, rr G 8 0 0), (1, iv v1), (2, iv v2), (4, iv v4), (5, iv v5), (6, iv v6), (7, iv v7), (8, iv 0)] [] M) ∧ (v8 < v7 → Call G 0 0 zX12_dutyAt [rr G 8 0 0, iv v2, iv (v5 + v8)] M (kI (fun x11 M9 => 0 ≤ ((181 + (30 * v1)) + v4) + v8 ∧ ((181 + (30 * v1)) + v4) + v8 < 500 ∧ eX12_exchange G K X 191 [(0, rr G 8 0 0), (1, iv v1), (2, iv v2), (4, iv v4), (5, iv v5), (6, iv v6), (7, iv v7), (8, iv (v8 + 1))] [] (wr M9 8 0 1 (((181 + (30 * v1)) + v4) + v8) x11))) noX))) : eX12_exchange G K X 191 [(0, rr G 8 0 0), (1, iv v1), (2, iv v2), (4, iv v4), (5, iv v5), (6, iv v6), (7, iv v7), (8, iv v8)] [] M := by
  show Ex G zX12_exchange 5 0 K X 0 191 [(0, rr G 8 0 0), (1, iv v1), (2, iv v2), (4, iv v4), (5, iv v5), (6, iv v6), (7, iv v7), (8, iv v8)] [] M
  refine ev_iload (j := 7) dX12_exchange_191 rfl ?_
  refine ev_iload (j := 6) dX12_exchange_193 rfl ?_
  obtain ⟨s1, s2, h3⟩ := h
  obtain ⟨h4, h5⟩ := h3
  refine ev_icmp_ge 233 dX12_exchange_195 (by decide) s1 s2 (fun c6 => ?_) (fun c6 => ?_)
  · have h7 := h4 c6
    refine ev_iconst dX12_exchange_233 ?_
    refine ev_istore dX12_exchange_234 (by decide) rfl ?_
    exact ev_sub [1, 2, 3, 4, 5, 6, 7, 0] rfl h7
  · have h8 := h5 c6
    refine ev_aload_n (j := 0) dX12_exchange_198 rfl rfl ?_
    refine ev_get frX12_7 dX12_exchange_199 dm8_0 en8_0 rfl ?_
    refine ev_sipush dX12_exchange_202 (by decide) ?_
    refine ev_bipush dX12_exchange_205 (by decide) ?_
    refine ev_iload_n (j := 1) dX12_exchange_207 rfl rfl ?_
    refine ev_imul dX12_exchange_208 ?_
    refine ev_iadd dX12_exchange_209 ?_
    refine ev_iload (j := 3) dX12_exchange_210 rfl ?_
    refine ev_iadd dX12_exchange_212 ?_
    refine ev_iload (j := 7) dX12_exchange_213 rfl ?_
    refine ev_iadd dX12_exchange_215 ?_
    refine ev_aload_n (j := 0) dX12_exchange_216 rfl rfl ?_
    refine ev_iload_n (j := 2) dX12_exchange_217 rfl rfl ?_
    refine ev_iload (j := 4) dX12_exchange_218 rfl ?_
    refine ev_iload (j := 7) dX12_exchange_220 rfl ?_
    refine ev_iadd dX12_exchange_222 ?_
    refine ev_callVI (As := [iv v2, iv (v5 + v8)]) (st := [iv (((181 + (30 * v1)) + v4) + v8), rr G 8 0 1]) mfX12_dutyAt mlX12_126 dX12_exchange_223 rfl dm8_0 en8_0 rfl rfl rfl (by decide) (by decide) (by decide) (Nat.le_of_ble_eq_true rfl) (fun _ _ z => z.elim) h8 (fun x11 M9 h10 => ?_)
    obtain ⟨s12, s13, h14⟩ := h10
    refine ev_iast dX12_exchange_226 dm8_1 ar8_1 (by decide) s12 s13 ?_
    refine ev_iinc (j := 7) dX12_exchange_227 rfl (by decide) rfl ?_
    refine ev_goto 191 dX12_exchange_230 (by decide) ?_
    exact ev_sub [1, 2, 3, 4, 5, 6, 7, 0] rfl h14
set_option maxRecDepth 20000 in
set_option maxHeartbeats 4000000 in
theorem bX12_exchange_236 {G : GT} {K : List Value → Mem → Prop} {X : String → Mem → Prop} {M : Mem} {v1 v2 v4 v5 v6 v7 v8 : Int} (h : I32 v8 ∧ I32 v6 ∧ ((¬ v8 < v6 → 0 ≤ 171 + v1 ∧ 171 + v1 < 500 ∧ 0 ≤ 171 + v2 ∧ 171 + v2 < 500 ∧ ∀ M14 : Mem, M14 = wr (wr M 8 0 1 (171 + v1) (v4 + v7)) 8 0 1 (171 + v2) (v5 + v6) → Call G 4 0 zX12_stands [rr G 8 0 0] M14 (kI (fun x19 M17 => I32 x19 ∧ ((x19 = 0 → Call G 0 0 zX12_fails [rr G 8 0 0, iv 3] M17 (kI (fun x28 M26 => K [iv x28] M26)) noX) ∧ (¬ x19 = 0 → K [iv (v6 + v7)] M17)))) noX) ∧ (v8 < v6 → 0 ≤ v8 ∧ v8 < 30 ∧ 0 ≤ ((181 + (30 * v2)) + v5) + v8 ∧ ((181 + (30 * v2)) + v5) + v8 < 500 ∧ eX12_exchange G K X 236 [(0, rr G 8 0 0), (1, iv v1), (2, iv v2), (4, iv v4), (5, iv v5), (6, iv v6), (7, iv v7), (8, iv (v8 + 1))] [] (wr M 8 0 1 (((181 + (30 * v2)) + v5) + v8) (M 8 0 7 v8))))) : eX12_exchange G K X 236 [(0, rr G 8 0 0), (1, iv v1), (2, iv v2), (4, iv v4), (5, iv v5), (6, iv v6), (7, iv v7), (8, iv v8)] [] M := by
  show Ex G zX12_exchange 5 0 K X 0 236 [(0, rr G 8 0 0), (1, iv v1), (2, iv v2), (4, iv v4), (5, iv v5), (6, iv v6), (7, iv v7), (8, iv v8)] [] M
  refine ev_iload (j := 7) dX12_exchange_236 rfl ?_
  refine ev_iload (j := 5) dX12_exchange_238 rfl ?_
  obtain ⟨s1, s2, h3⟩ := h
  obtain ⟨h4, h5⟩ := h3
  refine ev_icmp_ge 275 dX12_exchange_240 (by decide) s1 s2 (fun c6 => ?_) (fun c6 => ?_)
  · have h7 := h4 c6
    refine ev_aload_n (j := 0) dX12_exchange_275 rfl rfl ?_
    refine ev_get frX12_7 dX12_exchange_276 dm8_0 en8_0 rfl ?_
    refine ev_sipush dX12_exchange_279 (by decide) ?_
    refine ev_iload_n (j := 1) dX12_exchange_282 rfl rfl ?_
    refine ev_iadd dX12_exchange_283 ?_
    refine ev_iload (j := 3) dX12_exchange_284 rfl ?_
    refine ev_iload (j := 6) dX12_exchange_286 rfl ?_
    refine ev_iadd dX12_exchange_288 ?_
    obtain ⟨s8, s9, h10⟩ := h7
    refine ev_iast dX12_exchange_289 dm8_1 ar8_1 (by decide) s8 s9 ?_
    refine ev_aload_n (j := 0) dX12_exchange_290 rfl rfl ?_
    refine ev_get frX12_7 dX12_exchange_291 dm8_0 en8_0 rfl ?_
    refine ev_sipush dX12_exchange_294 (by decide) ?_
    refine ev_iload_n (j := 2) dX12_exchange_297 rfl rfl ?_
    refine ev_iadd dX12_exchange_298 ?_
    refine ev_iload (j := 4) dX12_exchange_299 rfl ?_
    refine ev_iload (j := 5) dX12_exchange_301 rfl ?_
    refine ev_iadd dX12_exchange_303 ?_
    obtain ⟨s11, s12, h13⟩ := h10
    refine ev_iast dX12_exchange_304 dm8_1 ar8_1 (by decide) s11 s12 ?_
    obtain ⟨M14, e16⟩ : ∃ M14 : Mem, M14 = wr (wr M 8 0 1 (171 + v1) (v4 + v7)) 8 0 1 (171 + v2) (v5 + v6) := ⟨_, rfl⟩
    have h15 := h13 _ e16
    refine ev_mem e16 ?_
    refine ev_aload_n (j := 0) dX12_exchange_305 rfl rfl ?_
    refine ev_callVI (As := []) (st := []) mfX12_stands mlX12_142 dX12_exchange_306 rfl dm8_0 en8_0 rfl rfl rfl (by decide) (by decide) (by decide) (Nat.le_of_ble_eq_true rfl) (fun _ _ z => z.elim) h15 (fun x19 M17 h18 => ?_)
    obtain ⟨s20, h21⟩ := h18
    obtain ⟨h22, h23⟩ := h21
    refine ev_if_eq 320 dX12_exchange_309 (by decide) s20 (fun c24 => ?_) (fun c24 => ?_)
    · have h25 := h22 c24
      refine ev_aload_n (j := 0) dX12_exchange_320 rfl rfl ?_
      refine ev_iconst dX12_exchange_321 ?_
      refine ev_callVI (As := [iv 3]) (st := []) mfX12_fails mlX12_146 dX12_exchange_322 rfl dm8_0 en8_0 rfl rfl rfl (by decide) (by decide) (by decide) (Nat.le_of_ble_eq_true rfl) (fun _ _ z => z.elim) h25 (fun x28 M26 h27 => ?_)
      exact ev_iret dX12_exchange_325 (by decide) rfl h27
    · have h29 := h23 c24
      refine ev_iload (j := 5) dX12_exchange_312 rfl ?_
      refine ev_iload (j := 6) dX12_exchange_314 rfl ?_
      refine ev_iadd dX12_exchange_316 ?_
      refine ev_goto 325 dX12_exchange_317 (by decide) ?_
      exact ev_iret dX12_exchange_325 (by decide) rfl h29
  · have h30 := h5 c6
    refine ev_aload_n (j := 0) dX12_exchange_243 rfl rfl ?_
    refine ev_get frX12_7 dX12_exchange_244 dm8_0 en8_0 rfl ?_
    refine ev_sipush dX12_exchange_247 (by decide) ?_
    refine ev_bipush dX12_exchange_250 (by decide) ?_
    refine ev_iload_n (j := 2) dX12_exchange_252 rfl rfl ?_
    refine ev_imul dX12_exchange_253 ?_
    refine ev_iadd dX12_exchange_254 ?_
    refine ev_iload (j := 4) dX12_exchange_255 rfl ?_
    refine ev_iadd dX12_exchange_257 ?_
    refine ev_iload (j := 7) dX12_exchange_258 rfl ?_
    refine ev_iadd dX12_exchange_260 ?_
    refine ev_aload_n (j := 0) dX12_exchange_261 rfl rfl ?_
    refine ev_get frX12_28 dX12_exchange_262 dm8_0 en8_0 rfl ?_
    refine ev_iload (j := 7) dX12_exchange_265 rfl ?_
    obtain ⟨s31, s32, h33⟩ := h30
    refine ev_iald dX12_exchange_267 dm8_7 ar8_7 (by decide) s31 s32 ?_
    obtain ⟨s34, s35, h36⟩ := h33
    refine ev_iast dX12_exchange_268 dm8_1 ar8_1 (by decide) s34 s35 ?_
    refine ev_iinc (j := 7) dX12_exchange_269 rfl (by decide) rfl ?_
    refine ev_goto 236 dX12_exchange_272 (by decide) ?_
    exact ev_sub [1, 2, 3, 4, 5, 6, 7, 0] rfl h36
def eX12_fails (G : GT) (K : List Value → Mem → Prop) (X : String → Mem → Prop) (pc : Nat) (lv : List (Nat × Value)) (st : List Value) (M : Mem) : Prop := Ex G zX12_fails 0 0 K X 0 pc lv st M
set_option maxRecDepth 20000 in
set_option maxHeartbeats 4000000 in
theorem bX12_fails {G : GT} {K : List Value → Mem → Prop} {X : String → Mem → Prop} {M : Mem} {v1 : Int} (h : K [iv 0] (wr M 8 0 0 7 v1)) : Call G 0 0 zX12_fails [rr G 8 0 0, iv v1] M K X := by
  refine call_intro (lv := [(0, rr G 8 0 0), (1, iv v1)]) (by decide) rfl (Nat.le_of_ble_eq_true rfl) rfl ?_
  refine ev_aload_n (j := 0) dX12_fails_0 rfl rfl ?_
  refine ev_iload_n (j := 1) dX12_fails_1 rfl rfl ?_
  refine ev_put fwX12_84 dX12_fails_2 dm8_0 en8_0 rfl rfl rfl (Nat.le_of_ble_eq_true rfl) ?_
  refine ev_iconst dX12_fails_5 ?_
  exact ev_iret dX12_fails_6 (by decide) rfl h
def eX12_faultPosition (G : GT) (K : List Value → Mem → Prop) (X : String → Mem → Prop) (pc : Nat) (lv : List (Nat × Value)) (st : List Value) (M : Mem) : Prop := Ex G zX12_faultPosition 0 0 K X 0 pc lv st M
set_option maxRecDepth 20000 in
set_option maxHeartbeats 4000000 in
theorem bX12_faultPosition {G : GT} {K : List Value → Mem → Prop} {X : String → Mem → Prop} {M : Mem} (h : K [iv (M 8 0 0 36)] (wr M 8 0 0 7 0)) : Call G 0 0 zX12_faultPosition [rr G 8 0 0] M K X := by
  refine call_intro (lv := [(0, rr G 8 0 0)]) (by decide) rfl (Nat.le_of_ble_eq_true rfl) rfl ?_
  refine ev_aload_n (j := 0) dX12_faultPosition_0 rfl rfl ?_
  refine ev_iconst dX12_faultPosition_1 ?_
  refine ev_put fwX12_84 dX12_faultPosition_2 dm8_0 en8_0 rfl rfl rfl (Nat.le_of_ble_eq_true rfl) ?_
  refine ev_aload_n (j := 0) dX12_faultPosition_5 rfl rfl ?_
  refine ev_get frX12_77 dX12_faultPosition_6 dm8_0 en8_0 rfl ?_
  refine ev_topI (b := M 8 0 0 36) rfl ?_
  exact ev_iret dX12_faultPosition_9 (by decide) rfl h
def eX12_finds (dn : Nat) (G : GT) (K : List Value → Mem → Prop) (X : String → Mem → Prop) (pc : Nat) (lv : List (Nat × Value)) (st : List Value) (M : Mem) : Prop := Ex G zX12_finds (dn + 5) 0 K X 0 pc lv st M
set_option maxRecDepth 20000 in
set_option maxHeartbeats 4000000 in
theorem bX12_finds {dn : Nat} {G : GT} {K : List Value → Mem → Prop} {X : String → Mem → Prop} {M : Mem} {v1 : Int} (h : eX12_finds dn G K X 2 [(0, rr G 8 0 0), (1, iv v1), (2, iv 0)] [] M) : Call G (dn + 5) 0 zX12_finds [rr G 8 0 0, iv v1] M K X := by
  refine call_intro (lv := [(0, rr G 8 0 0), (1, iv v1)]) (by decide) rfl (Nat.le_of_ble_eq_true rfl) rfl ?_
  refine ev_iconst dX12_finds_0 ?_
  refine ev_istore_n dX12_finds_1 rfl (by decide) rfl ?_
  exact ev_sub [1, 2, 0] rfl h
set_option maxRecDepth 20000 in
set_option maxHeartbeats 4000000 in
theorem bX12_finds_2 {dn : Nat} {G : GT} {K : List Value → Mem → Prop} {X : String → Mem → Prop} {M : Mem} {v1 v2 : Int} (h : I32 v2 ∧ I32 (M 8 0 1 37) ∧ ((¬ v2 < (M 8 0 1 37) → K [iv 0] M) ∧ (v2 < (M 8 0 1 37) → Call G 3 0 zX12_links [rr G 8 0 0, iv v1, iv v2] M (kI (fun x11 M9 => I32 x11 ∧ ((x11 = 0 → eX12_finds dn G K X 2 [(0, rr G 8 0 0), (1, iv v1), (2, iv (v2 + 1))] [] M9) ∧ (¬ x11 = 0 → 0 ≤ v2 ∧ v2 < 30 ∧ I32 (M9 8 0 15 v2) ∧ (((M9 8 0 15 v2) = 0 → I32 (M9 8 0 14 v2) ∧ (((M9 8 0 14 v2) < 0 → K [iv 1] (wr (wr M9 8 0 15 v2 1) 8 0 14 v2 v1)) ∧ (¬ (M9 8 0 14 v2) < 0 → Call G (dn + 4) 0 zX12_finds [rr G 8 0 0, iv (M9 8 0 14 v2)] (wr M9 8 0 15 v2 1) (kI (fun x37 M35 => I32 x37 ∧ ((x37 = 0 → eX12_finds dn G K X 2 [(0, rr G 8 0 0), (1, iv v1), (2, iv (v2 + 1))] [] M35) ∧ (¬ x37 = 0 → K [iv 1] (wr M35 8 0 14 v2 v1))))) noX))) ∧ (¬ (M9 8 0 15 v2) = 0 → eX12_finds dn G K X 2 [(0, rr G 8 0 0), (1, iv v1), (2, iv (v2 + 1))] [] M9)))))) noX))) : eX12_finds dn G K X 2 [(0, rr G 8 0 0), (1, iv v1), (2, iv v2)] [] M := by
  show Ex G zX12_finds (dn + 5) 0 K X 0 2 [(0, rr G 8 0 0), (1, iv v1), (2, iv v2)] [] M
  refine ev_iload_n (j := 2) dX12_finds_2 rfl rfl ?_
  refine ev_aload_n (j := 0) dX12_finds_3 rfl rfl ?_
  refine ev_get frX12_7 dX12_finds_4 dm8_0 en8_0 rfl ?_
  refine ev_bipush dX12_finds_7 (by decide) ?_
  refine ev_iald dX12_finds_9 dm8_1 ar8_1 (by decide) (by decide) (by decide) ?_
  obtain ⟨s1, s2, h3⟩ := h
  obtain ⟨h4, h5⟩ := h3
  refine ev_icmp_ge 78 dX12_finds_10 (by decide) s1 s2 (fun c6 => ?_) (fun c6 => ?_)
  · have h7 := h4 c6
    refine ev_iconst dX12_finds_78 ?_
    exact ev_zret dX12_finds_79 (by decide) rfl (by decide) h7
  · have h8 := h5 c6
    refine ev_aload_n (j := 0) dX12_finds_13 rfl rfl ?_
    refine ev_iload_n (j := 1) dX12_finds_14 rfl rfl ?_
    refine ev_iload_n (j := 2) dX12_finds_15 rfl rfl ?_
    refine ev_callVI (As := [iv v1, iv v2]) (st := []) mfX12_links mlX12_298 dX12_finds_16 rfl dm8_0 en8_0 rfl rfl rfl (by omega) (by decide) (by decide) (Nat.le_of_ble_eq_true rfl) (fun _ _ z => z.elim) h8 (fun x11 M9 h10 => ?_)
    obtain ⟨s12, h13⟩ := h10
    obtain ⟨h14, h15⟩ := h13
    refine ev_if_eq 72 dX12_finds_19 (by decide) s12 (fun c16 => ?_) (fun c16 => ?_)
    · have h17 := h14 c16
      refine ev_iinc (j := 2) dX12_finds_72 rfl (by decide) rfl ?_
      refine ev_goto 2 dX12_finds_75 (by decide) ?_
      exact ev_sub [1, 2, 0] rfl h17
    · have h18 := h15 c16
      refine ev_aload_n (j := 0) dX12_finds_22 rfl rfl ?_
      refine ev_get frX12_52 dX12_finds_23 dm8_0 en8_0 rfl ?_
      refine ev_iload_n (j := 2) dX12_finds_26 rfl rfl ?_
      obtain ⟨s19, s20, h21⟩ := h18
      refine ev_zald dX12_finds_27 dm8_15 ar8_15 (by decide) s19 s20 ?_
      obtain ⟨s22, h23⟩ := h21
      obtain ⟨h24, h25⟩ := h23
      refine ev_if_eq 34 dX12_finds_28 (by decide) s22 (fun c26 => ?_) (fun c26 => ?_)
      · have h27 := h24 c26
        refine ev_aload_n (j := 0) dX12_finds_34 rfl rfl ?_
        refine ev_get frX12_52 dX12_finds_35 dm8_0 en8_0 rfl ?_
        refine ev_iload_n (j := 2) dX12_finds_38 rfl rfl ?_
        refine ev_iconst dX12_finds_39 ?_
        refine ev_zast dX12_finds_40 dm8_15 ar8_15 (by decide) s19 s20 (by decide) ?_
        refine ev_aload_n (j := 0) dX12_finds_41 rfl rfl ?_
        refine ev_get frX12_49 dX12_finds_42 dm8_0 en8_0 rfl ?_
        refine ev_iload_n (j := 2) dX12_finds_45 rfl rfl ?_
        refine ev_iald dX12_finds_46 dm8_14 ar8_14 (by decide) s19 s20 ?_
        refine ev_topI (b := M9 8 0 14 v2) rfl ?_
        obtain ⟨s28, h29⟩ := h27
        obtain ⟨h30, h31⟩ := h29
        refine ev_if_lt 63 dX12_finds_47 (by decide) s28 (fun c32 => ?_) (fun c32 => ?_)
        · have h33 := h30 c32
          refine ev_aload_n (j := 0) dX12_finds_63 rfl rfl ?_
          refine ev_get frX12_49 dX12_finds_64 dm8_0 en8_0 rfl ?_
          refine ev_iload_n (j := 2) dX12_finds_67 rfl rfl ?_
          refine ev_iload_n (j := 1) dX12_finds_68 rfl rfl ?_
          refine ev_iast dX12_finds_69 dm8_14 ar8_14 (by decide) s19 s20 ?_
          refine ev_iconst dX12_finds_70 ?_
          exact ev_zret dX12_finds_71 (by decide) rfl (by decide) h33
        · have h34 := h31 c32
          refine ev_aload_n (j := 0) dX12_finds_50 rfl rfl ?_
          refine ev_aload_n (j := 0) dX12_finds_51 rfl rfl ?_
          refine ev_get frX12_49 dX12_finds_52 dm8_0 en8_0 rfl ?_
          refine ev_iload_n (j := 2) dX12_finds_55 rfl rfl ?_
          refine ev_iald dX12_finds_56 dm8_14 ar8_14 (by decide) s19 s20 ?_
          refine ev_topI (b := M9 8 0 14 v2) rfl ?_
          refine ev_callVI (As := [iv (M9 8 0 14 v2)]) (st := []) mfX12_finds mlX12_301 dX12_finds_57 rfl dm8_0 en8_0 rfl rfl rfl (by omega) (by decide) (by decide) (Nat.le_of_ble_eq_true rfl) (fun _ _ z => z.elim) h34 (fun x37 M35 h36 => ?_)
          obtain ⟨s38, h39⟩ := h36
          obtain ⟨h40, h41⟩ := h39
          refine ev_if_eq 72 dX12_finds_60 (by decide) s38 (fun c42 => ?_) (fun c42 => ?_)
          · have h43 := h40 c42
            refine ev_iinc (j := 2) dX12_finds_72 rfl (by decide) rfl ?_
            refine ev_goto 2 dX12_finds_75 (by decide) ?_
            exact ev_sub [1, 2, 0] rfl h43
          · have h44 := h41 c42
            refine ev_aload_n (j := 0) dX12_finds_63 rfl rfl ?_
            refine ev_get frX12_49 dX12_finds_64 dm8_0 en8_0 rfl ?_
            refine ev_iload_n (j := 2) dX12_finds_67 rfl rfl ?_
            refine ev_iload_n (j := 1) dX12_finds_68 rfl rfl ?_
            refine ev_iast dX12_finds_69 dm8_14 ar8_14 (by decide) s19 s20 ?_
            refine ev_iconst dX12_finds_70 ?_
            exact ev_zret dX12_finds_71 (by decide) rfl (by decide) h44
      · have h45 := h25 c26
        refine ev_goto 72 dX12_finds_31 (by decide) ?_
        refine ev_iinc (j := 2) dX12_finds_72 rfl (by decide) rfl ?_
        refine ev_goto 2 dX12_finds_75 (by decide) ?_
        exact ev_sub [1, 2, 0] rfl h45
def eX12_first (G : GT) (K : List Value → Mem → Prop) (X : String → Mem → Prop) (pc : Nat) (lv : List (Nat × Value)) (st : List Value) (M : Mem) : Prop := Ex G zX12_first 0 0 K X 0 pc lv st M
set_option maxRecDepth 20000 in
set_option maxHeartbeats 4000000 in
theorem bX12_first {G : GT} {K : List Value → Mem → Prop} {X : String → Mem → Prop} {M : Mem} {v1 : Int} (h : 0 ≤ 40 + (4 * v1) ∧ 40 + (4 * v1) < 500 ∧ K [iv (M 8 0 1 (40 + (4 * v1)))] M) : Call G 0 0 zX12_first [rr G 8 0 0, iv v1] M K X := by
  refine call_intro (lv := [(0, rr G 8 0 0), (1, iv v1)]) (by decide) rfl (Nat.le_of_ble_eq_true rfl) rfl ?_
  refine ev_aload_n (j := 0) dX12_first_0 rfl rfl ?_
  refine ev_get frX12_7 dX12_first_1 dm8_0 en8_0 rfl ?_
  refine ev_bipush dX12_first_4 (by decide) ?_
  refine ev_iconst dX12_first_6 ?_
  refine ev_iload_n (j := 1) dX12_first_7 rfl rfl ?_
  refine ev_imul dX12_first_8 ?_
  refine ev_iadd dX12_first_9 ?_
  obtain ⟨s1, s2, h3⟩ := h
  refine ev_iald dX12_first_10 dm8_1 ar8_1 (by decide) s1 s2 ?_
  exact ev_iret dX12_first_11 (by decide) rfl h3
def eX12_follows (G : GT) (K : List Value → Mem → Prop) (X : String → Mem → Prop) (pc : Nat) (lv : List (Nat × Value)) (st : List Value) (M : Mem) : Prop := Ex G zX12_follows 2 0 K X 0 pc lv st M
set_option maxRecDepth 20000 in
set_option maxHeartbeats 4000000 in
theorem bX12_follows {G : GT} {K : List Value → Mem → Prop} {X : String → Mem → Prop} {M : Mem} {v1 v2 : Int} (h : Call G 0 0 zX12_first [rr G 8 0 0, iv v2] M (kI (fun x3 M1 => Call G 0 0 zX12_last [rr G 8 0 0, iv v1] M1 (kI (fun x6 M4 => I32 x3 ∧ I32 x6 ∧ ((¬ x3 = x6 → K [iv 0] M4) ∧ (x3 = x6 → Call G 0 0 zX12_departs [rr G 8 0 0, iv v2] M4 (kI (fun x17 M15 => Call G 1 0 zX12_arrives [rr G 8 0 0, iv v1] M15 (kI (fun x20 M18 => I32 x17 ∧ I32 (x20 + (M18 8 0 1 34)) ∧ ((x17 < (x20 + (M18 8 0 1 34)) → K [iv 0] M18) ∧ (¬ x17 < (x20 + (M18 8 0 1 34)) → K [iv 1] M18)))) noX)) noX)))) noX)) noX) : Call G 2 0 zX12_follows [rr G 8 0 0, iv v1, iv v2] M K X := by
  refine call_intro (lv := [(0, rr G 8 0 0), (1, iv v1), (2, iv v2)]) (by decide) rfl (Nat.le_of_ble_eq_true rfl) rfl ?_
  refine ev_aload_n (j := 0) dX12_follows_0 rfl rfl ?_
  refine ev_iload_n (j := 2) dX12_follows_1 rfl rfl ?_
  refine ev_callVI (As := [iv v2]) (st := []) mfX12_first mlX12_113 dX12_follows_2 rfl dm8_0 en8_0 rfl rfl rfl (by decide) (by decide) (by decide) (Nat.le_of_ble_eq_true rfl) (fun _ _ z => z.elim) h (fun x3 M1 h2 => ?_)
  refine ev_aload_n (j := 0) dX12_follows_5 rfl rfl ?_
  refine ev_iload_n (j := 1) dX12_follows_6 rfl rfl ?_
  refine ev_callVI (As := [iv v1]) (st := [iv x3]) mfX12_last mlX12_116 dX12_follows_7 rfl dm8_0 en8_0 rfl rfl rfl (by decide) (by decide) (by decide) (Nat.le_of_ble_eq_true rfl) (fun _ _ z => z.elim) h2 (fun x6 M4 h5 => ?_)
  obtain ⟨s7, s8, h9⟩ := h5
  obtain ⟨h10, h11⟩ := h9
  refine ev_icmp_ne 38 dX12_follows_10 (by decide) s7 s8 (fun c12 => ?_) (fun c12 => ?_)
  · have h13 := h10 c12
    refine ev_iconst dX12_follows_38 ?_
    exact ev_zret dX12_follows_39 (by decide) rfl (by decide) h13
  · have h14 := h11 c12
    refine ev_aload_n (j := 0) dX12_follows_13 rfl rfl ?_
    refine ev_iload_n (j := 2) dX12_follows_14 rfl rfl ?_
    refine ev_callVI (As := [iv v2]) (st := []) mfX12_departs mlX12_109 dX12_follows_15 rfl dm8_0 en8_0 rfl rfl rfl (by decide) (by decide) (by decide) (Nat.le_of_ble_eq_true rfl) (fun _ _ z => z.elim) h14 (fun x17 M15 h16 => ?_)
    refine ev_aload_n (j := 0) dX12_follows_18 rfl rfl ?_
    refine ev_iload_n (j := 1) dX12_follows_19 rfl rfl ?_
    refine ev_callVI (As := [iv v1]) (st := [iv x17]) mfX12_arrives mlX12_123 dX12_follows_20 rfl dm8_0 en8_0 rfl rfl rfl (by decide) (by decide) (by decide) (Nat.le_of_ble_eq_true rfl) (fun _ _ z => z.elim) h16 (fun x20 M18 h19 => ?_)
    refine ev_aload_n (j := 0) dX12_follows_23 rfl rfl ?_
    refine ev_get frX12_7 dX12_follows_24 dm8_0 en8_0 rfl ?_
    refine ev_bipush dX12_follows_27 (by decide) ?_
    refine ev_iald dX12_follows_29 dm8_1 ar8_1 (by decide) (by decide) (by decide) ?_
    refine ev_iadd dX12_follows_30 ?_
    obtain ⟨s21, s22, h23⟩ := h19
    obtain ⟨h24, h25⟩ := h23
    refine ev_icmp_lt 38 dX12_follows_31 (by decide) s21 s22 (fun c26 => ?_) (fun c26 => ?_)
    · have h27 := h24 c26
      refine ev_iconst dX12_follows_38 ?_
      exact ev_zret dX12_follows_39 (by decide) rfl (by decide) h27
    · have h28 := h25 c26
      refine ev_iconst dX12_follows_34 ?_
      refine ev_goto 39 dX12_follows_35 (by decide) ?_
      exact ev_zret dX12_follows_39 (by decide) rfl (by decide) h28
def eX12_give (G : GT) (K : List Value → Mem → Prop) (X : String → Mem → Prop) (pc : Nat) (lv : List (Nat × Value)) (st : List Value) (M : Mem) : Prop := Ex G zX12_give 4 0 K X 0 pc lv st M
set_option maxRecDepth 20000 in
set_option maxHeartbeats 4000000 in
theorem bX12_give {G : GT} {K : List Value → Mem → Prop} {X : String → Mem → Prop} {M : Mem} {v1 v2 : Int} (h : Call G 1 0 zX12_isTrip [rr G 8 0 0, iv v1] M (kI (fun x3 M1 => I32 x3 ∧ ((x3 = 0 → K [iv 0] (wr M1 8 0 0 7 1)) ∧ (¬ x3 = 0 → Call G 1 0 zX12_isVehicle [rr G 8 0 0, iv v2] M1 (kI (fun x13 M11 => I32 x13 ∧ ((x13 = 0 → K [iv 0] (wr M11 8 0 0 7 1)) ∧ (¬ x13 = 0 → Call G 3 0 zX12_reasonFor [rr G 8 0 0, iv v1, iv v2] (wr M11 8 0 0 7 0) (kI (fun x23 M21 => I32 x23 ∧ ((¬ 0 < x23 → Call G 1 0 zX12_begins [rr G 8 0 0] M21 (kV (fun M30 => Call G 2 0 zX12_gives [rr G 8 0 0, iv v1, iv v2] M30 (kI (fun x35 M33 => Call G 0 0 zX12_remembers [rr G 8 0 0] M33 (kV (fun M36 => K [iv x35] M36)) noX)) noX)) noX) ∧ (0 < x23 → Call G 0 0 zX12_fails [rr G 8 0 0, iv 2] (wr M21 8 0 0 6 x23) (kI (fun x42 M40 => K [iv x42] M40)) noX)))) noX)))) noX)))) noX) : Call G 4 0 zX12_give [rr G 8 0 0, iv v1, iv v2] M K X := by
  refine call_intro (lv := [(0, rr G 8 0 0), (1, iv v1), (2, iv v2)]) (by decide) rfl (Nat.le_of_ble_eq_true rfl) rfl ?_
  refine ev_aload_n (j := 0) dX12_give_0 rfl rfl ?_
  refine ev_aload_n (j := 0) dX12_give_1 rfl rfl ?_
  refine ev_iload_n (j := 1) dX12_give_2 rfl rfl ?_
  refine ev_callVI (As := [iv v1]) (st := [rr G 8 0 0]) mfX12_isTrip mlX12_169 dX12_give_3 rfl dm8_0 en8_0 rfl rfl rfl (by decide) (by decide) (by decide) (Nat.le_of_ble_eq_true rfl) (fun _ _ z => z.elim) h (fun x3 M1 h2 => ?_)
  obtain ⟨s4, h5⟩ := h2
  obtain ⟨h6, h7⟩ := h5
  refine ev_if_eq 21 dX12_give_6 (by decide) s4 (fun c8 => ?_) (fun c8 => ?_)
  · have h9 := h6 c8
    refine ev_iconst dX12_give_21 ?_
    refine ev_put fwX12_84 dX12_give_22 dm8_0 en8_0 rfl rfl rfl (Nat.le_of_ble_eq_true rfl) ?_
    refine ev_aload_n (j := 0) dX12_give_25 rfl rfl ?_
    refine ev_get frX12_84 dX12_give_26 dm8_0 en8_0 rfl ?_
    refine ev_topI (b := 1) rfl ?_
    refine ev_if_le 34 dX12_give_29 (by decide) ⟨by decide, by decide⟩ (fun c9 => absurd c9 (by decide)) (fun _ => ?_)
    refine ev_iconst dX12_give_32 ?_
    exact ev_iret dX12_give_33 (by decide) rfl h9
  · have h10 := h7 c8
    refine ev_aload_n (j := 0) dX12_give_9 rfl rfl ?_
    refine ev_iload_n (j := 2) dX12_give_10 rfl rfl ?_
    refine ev_callVI (As := [iv v2]) (st := [rr G 8 0 0]) mfX12_isVehicle mlX12_220 dX12_give_11 rfl dm8_0 en8_0 rfl rfl rfl (by decide) (by decide) (by decide) (Nat.le_of_ble_eq_true rfl) (fun _ _ z => z.elim) h10 (fun x13 M11 h12 => ?_)
    obtain ⟨s14, h15⟩ := h12
    obtain ⟨h16, h17⟩ := h15
    refine ev_if_eq 21 dX12_give_14 (by decide) s14 (fun c18 => ?_) (fun c18 => ?_)
    · have h19 := h16 c18
      refine ev_iconst dX12_give_21 ?_
      refine ev_put fwX12_84 dX12_give_22 dm8_0 en8_0 rfl rfl rfl (Nat.le_of_ble_eq_true rfl) ?_
      refine ev_aload_n (j := 0) dX12_give_25 rfl rfl ?_
      refine ev_get frX12_84 dX12_give_26 dm8_0 en8_0 rfl ?_
      refine ev_topI (b := 1) rfl ?_
      refine ev_if_le 34 dX12_give_29 (by decide) ⟨by decide, by decide⟩ (fun c9 => absurd c9 (by decide)) (fun _ => ?_)
      refine ev_iconst dX12_give_32 ?_
      exact ev_iret dX12_give_33 (by decide) rfl h19
    · have h20 := h17 c18
      refine ev_iconst dX12_give_17 ?_
      refine ev_goto 22 dX12_give_18 (by decide) ?_
      refine ev_put fwX12_84 dX12_give_22 dm8_0 en8_0 rfl rfl rfl (Nat.le_of_ble_eq_true rfl) ?_
      refine ev_aload_n (j := 0) dX12_give_25 rfl rfl ?_
      refine ev_get frX12_84 dX12_give_26 dm8_0 en8_0 rfl ?_
      refine ev_topI (b := 0) rfl ?_
      refine ev_if_le 34 dX12_give_29 (by decide) ⟨by decide, by decide⟩ (fun _ => ?_) (fun c9 => absurd c9 (by decide))
      refine ev_aload_n (j := 0) dX12_give_34 rfl rfl ?_
      refine ev_iload_n (j := 1) dX12_give_35 rfl rfl ?_
      refine ev_iload_n (j := 2) dX12_give_36 rfl rfl ?_
      refine ev_callVI (As := [iv v1, iv v2]) (st := []) mfX12_reasonFor mlX12_223 dX12_give_37 rfl dm8_0 en8_0 rfl rfl rfl (by decide) (by decide) (by decide) (Nat.le_of_ble_eq_true rfl) (fun _ _ z => z.elim) h20 (fun x23 M21 h22 => ?_)
      refine ev_istore_n dX12_give_40 rfl (by decide) rfl ?_
      refine ev_iload_n (j := 0) dX12_give_41 rfl rfl ?_
      obtain ⟨s24, h25⟩ := h22
      obtain ⟨h26, h27⟩ := h25
      refine ev_if_le 56 dX12_give_42 (by decide) s24 (fun c28 => ?_) (fun c28 => ?_)
      · have h29 := h26 c28
        refine ev_aload_n (j := 1) dX12_give_56 rfl rfl ?_
        refine ev_callVV (As := []) (st := []) mfX12_begins mlX12_139 dX12_give_57 rfl dm8_0 en8_0 rfl rfl rfl (by decide) (by decide) (by decide) (Nat.le_of_ble_eq_true rfl) (fun _ _ z => z.elim) h29 (fun M30 h31 => ?_)
        refine ev_aload_n (j := 1) dX12_give_60 rfl rfl ?_
        refine ev_iload_n (j := 2) dX12_give_61 rfl rfl ?_
        refine ev_iload_n (j := 3) dX12_give_62 rfl rfl ?_
        refine ev_callVI (As := [iv v1, iv v2]) (st := []) mfX12_gives mlX12_229 dX12_give_63 rfl dm8_0 en8_0 rfl rfl rfl (by decide) (by decide) (by decide) (Nat.le_of_ble_eq_true rfl) (fun _ _ z => z.elim) h31 (fun x35 M33 h34 => ?_)
        refine ev_istore dX12_give_66 (by decide) rfl ?_
        refine ev_aload_n (j := 2) dX12_give_68 rfl rfl ?_
        refine ev_callVV (As := []) (st := []) mfX12_remembers mlX12_102 dX12_give_69 rfl dm8_0 en8_0 rfl rfl rfl (by decide) (by decide) (by decide) (Nat.le_of_ble_eq_true rfl) (fun _ _ z => z.elim) h34 (fun M36 h37 => ?_)
        refine ev_iload (j := 0) dX12_give_72 rfl ?_
        exact ev_iret dX12_give_74 (by decide) rfl h37
      · have h39 := h27 c28
        refine ev_aload_n (j := 1) dX12_give_45 rfl rfl ?_
        refine ev_iload_n (j := 0) dX12_give_46 rfl rfl ?_
        refine ev_put fwX12_226 dX12_give_47 dm8_0 en8_0 rfl rfl rfl (Nat.le_of_ble_eq_true rfl) ?_
        refine ev_aload_n (j := 1) dX12_give_50 rfl rfl ?_
        refine ev_iconst dX12_give_51 ?_
        refine ev_callVI (As := [iv 2]) (st := []) mfX12_fails mlX12_146 dX12_give_52 rfl dm8_0 en8_0 rfl rfl rfl (by decide) (by decide) (by decide) (Nat.le_of_ble_eq_true rfl) (fun _ _ z => z.elim) h39 (fun x42 M40 h41 => ?_)
        exact ev_iret dX12_give_55 (by decide) rfl h41
def eX12_giveRound (G : GT) (K : List Value → Mem → Prop) (X : String → Mem → Prop) (pc : Nat) (lv : List (Nat × Value)) (st : List Value) (M : Mem) : Prop := Ex G zX12_giveRound 4 0 K X 0 pc lv st M
set_option maxRecDepth 20000 in
set_option maxHeartbeats 4000000 in
theorem bX12_giveRound {G : GT} {K : List Value → Mem → Prop} {X : String → Mem → Prop} {M : Mem} {v1 v2 v3 : Int} (h : Call G 1 0 zX12_isTrip [rr G 8 0 0, iv v1] M (kI (fun x3 M1 => I32 x3 ∧ ((x3 = 0 → K [iv 0] (wr M1 8 0 0 7 1)) ∧ (¬ x3 = 0 → Call G 1 0 zX12_isTrip [rr G 8 0 0, iv v2] M1 (kI (fun x13 M11 => I32 x13 ∧ ((x13 = 0 → K [iv 0] (wr M11 8 0 0 7 1)) ∧ (¬ x13 = 0 → Call G 1 0 zX12_isVehicle [rr G 8 0 0, iv v3] M11 (kI (fun x23 M21 => I32 x23 ∧ ((x23 = 0 → K [iv 0] (wr M21 8 0 0 7 1)) ∧ (¬ x23 = 0 → Call G 3 0 zX12_reasonForRound [rr G 8 0 0, iv v1, iv v2, iv v3] (wr M21 8 0 0 7 0) (kI (fun x33 M31 => I32 x33 ∧ ((¬ 0 < x33 → Call G 1 0 zX12_begins [rr G 8 0 0] M31 (kV (fun M40 => Call G 2 0 zX12_gives [rr G 8 0 0, iv v1, iv v3] M40 (kI (fun x45 M43 => Call G 2 0 zX12_gives [rr G 8 0 0, iv v2, iv v3] M43 (kI (fun x48 M46 => Call G 0 0 zX12_remembers [rr G 8 0 0] M46 (kV (fun M49 => K [iv x45] M49)) noX)) noX)) noX)) noX) ∧ (0 < x33 → Call G 0 0 zX12_fails [rr G 8 0 0, iv 2] (wr M31 8 0 0 6 x33) (kI (fun x55 M53 => K [iv x55] M53)) noX)))) noX)))) noX)))) noX)))) noX) : Call G 4 0 zX12_giveRound [rr G 8 0 0, iv v1, iv v2, iv v3] M K X := by
  refine call_intro (lv := [(0, rr G 8 0 0), (1, iv v1), (2, iv v2), (3, iv v3)]) (by decide) rfl (Nat.le_of_ble_eq_true rfl) rfl ?_
  refine ev_aload_n (j := 0) dX12_giveRound_0 rfl rfl ?_
  refine ev_aload_n (j := 0) dX12_giveRound_1 rfl rfl ?_
  refine ev_iload_n (j := 1) dX12_giveRound_2 rfl rfl ?_
  refine ev_callVI (As := [iv v1]) (st := [rr G 8 0 0]) mfX12_isTrip mlX12_169 dX12_giveRound_3 rfl dm8_0 en8_0 rfl rfl rfl (by decide) (by decide) (by decide) (Nat.le_of_ble_eq_true rfl) (fun _ _ z => z.elim) h (fun x3 M1 h2 => ?_)
  obtain ⟨s4, h5⟩ := h2
  obtain ⟨h6, h7⟩ := h5
  refine ev_if_eq 29 dX12_giveRound_6 (by decide) s4 (fun c8 => ?_) (fun c8 => ?_)
  · have h9 := h6 c8
    refine ev_iconst dX12_giveRound_29 ?_
    refine ev_put fwX12_84 dX12_giveRound_30 dm8_0 en8_0 rfl rfl rfl (Nat.le_of_ble_eq_true rfl) ?_
    refine ev_aload_n (j := 0) dX12_giveRound_33 rfl rfl ?_
    refine ev_get frX12_84 dX12_giveRound_34 dm8_0 en8_0 rfl ?_
    refine ev_topI (b := 1) rfl ?_
    refine ev_if_le 42 dX12_giveRound_37 (by decide) ⟨by decide, by decide⟩ (fun c9 => absurd c9 (by decide)) (fun _ => ?_)
    refine ev_iconst dX12_giveRound_40 ?_
    exact ev_iret dX12_giveRound_41 (by decide) rfl h9
  · have h10 := h7 c8
    refine ev_aload_n (j := 0) dX12_giveRound_9 rfl rfl ?_
    refine ev_iload_n (j := 2) dX12_giveRound_10 rfl rfl ?_
    refine ev_callVI (As := [iv v2]) (st := [rr G 8 0 0]) mfX12_isTrip mlX12_169 dX12_giveRound_11 rfl dm8_0 en8_0 rfl rfl rfl (by decide) (by decide) (by decide) (Nat.le_of_ble_eq_true rfl) (fun _ _ z => z.elim) h10 (fun x13 M11 h12 => ?_)
    obtain ⟨s14, h15⟩ := h12
    obtain ⟨h16, h17⟩ := h15
    refine ev_if_eq 29 dX12_giveRound_14 (by decide) s14 (fun c18 => ?_) (fun c18 => ?_)
    · have h19 := h16 c18
      refine ev_iconst dX12_giveRound_29 ?_
      refine ev_put fwX12_84 dX12_giveRound_30 dm8_0 en8_0 rfl rfl rfl (Nat.le_of_ble_eq_true rfl) ?_
      refine ev_aload_n (j := 0) dX12_giveRound_33 rfl rfl ?_
      refine ev_get frX12_84 dX12_giveRound_34 dm8_0 en8_0 rfl ?_
      refine ev_topI (b := 1) rfl ?_
      refine ev_if_le 42 dX12_giveRound_37 (by decide) ⟨by decide, by decide⟩ (fun c9 => absurd c9 (by decide)) (fun _ => ?_)
      refine ev_iconst dX12_giveRound_40 ?_
      exact ev_iret dX12_giveRound_41 (by decide) rfl h19
    · have h20 := h17 c18
      refine ev_aload_n (j := 0) dX12_giveRound_17 rfl rfl ?_
      refine ev_iload_n (j := 3) dX12_giveRound_18 rfl rfl ?_
      refine ev_callVI (As := [iv v3]) (st := [rr G 8 0 0]) mfX12_isVehicle mlX12_220 dX12_giveRound_19 rfl dm8_0 en8_0 rfl rfl rfl (by decide) (by decide) (by decide) (Nat.le_of_ble_eq_true rfl) (fun _ _ z => z.elim) h20 (fun x23 M21 h22 => ?_)
      obtain ⟨s24, h25⟩ := h22
      obtain ⟨h26, h27⟩ := h25
      refine ev_if_eq 29 dX12_giveRound_22 (by decide) s24 (fun c28 => ?_) (fun c28 => ?_)
      · have h29 := h26 c28
        refine ev_iconst dX12_giveRound_29 ?_
        refine ev_put fwX12_84 dX12_giveRound_30 dm8_0 en8_0 rfl rfl rfl (Nat.le_of_ble_eq_true rfl) ?_
        refine ev_aload_n (j := 0) dX12_giveRound_33 rfl rfl ?_
        refine ev_get frX12_84 dX12_giveRound_34 dm8_0 en8_0 rfl ?_
        refine ev_topI (b := 1) rfl ?_
        refine ev_if_le 42 dX12_giveRound_37 (by decide) ⟨by decide, by decide⟩ (fun c9 => absurd c9 (by decide)) (fun _ => ?_)
        refine ev_iconst dX12_giveRound_40 ?_
        exact ev_iret dX12_giveRound_41 (by decide) rfl h29
      · have h30 := h27 c28
        refine ev_iconst dX12_giveRound_25 ?_
        refine ev_goto 30 dX12_giveRound_26 (by decide) ?_
        refine ev_put fwX12_84 dX12_giveRound_30 dm8_0 en8_0 rfl rfl rfl (Nat.le_of_ble_eq_true rfl) ?_
        refine ev_aload_n (j := 0) dX12_giveRound_33 rfl rfl ?_
        refine ev_get frX12_84 dX12_giveRound_34 dm8_0 en8_0 rfl ?_
        refine ev_topI (b := 0) rfl ?_
        refine ev_if_le 42 dX12_giveRound_37 (by decide) ⟨by decide, by decide⟩ (fun _ => ?_) (fun c9 => absurd c9 (by decide))
        refine ev_aload_n (j := 0) dX12_giveRound_42 rfl rfl ?_
        refine ev_iload_n (j := 1) dX12_giveRound_43 rfl rfl ?_
        refine ev_iload_n (j := 2) dX12_giveRound_44 rfl rfl ?_
        refine ev_iload_n (j := 3) dX12_giveRound_45 rfl rfl ?_
        refine ev_callVI (As := [iv v1, iv v2, iv v3]) (st := []) mfX12_reasonForRound mlX12_232 dX12_giveRound_46 rfl dm8_0 en8_0 rfl rfl rfl (by decide) (by decide) (by decide) (Nat.le_of_ble_eq_true rfl) (fun _ _ z => z.elim) h30 (fun x33 M31 h32 => ?_)
        refine ev_istore dX12_giveRound_49 (by decide) rfl ?_
        refine ev_iload (j := 0) dX12_giveRound_51 rfl ?_
        obtain ⟨s34, h35⟩ := h32
        obtain ⟨h36, h37⟩ := h35
        refine ev_if_le 68 dX12_giveRound_53 (by decide) s34 (fun c38 => ?_) (fun c38 => ?_)
        · have h39 := h36 c38
          refine ev_aload_n (j := 1) dX12_giveRound_68 rfl rfl ?_
          refine ev_callVV (As := []) (st := []) mfX12_begins mlX12_139 dX12_giveRound_69 rfl dm8_0 en8_0 rfl rfl rfl (by decide) (by decide) (by decide) (Nat.le_of_ble_eq_true rfl) (fun _ _ z => z.elim) h39 (fun M40 h41 => ?_)
          refine ev_aload_n (j := 1) dX12_giveRound_72 rfl rfl ?_
          refine ev_iload_n (j := 2) dX12_giveRound_73 rfl rfl ?_
          refine ev_iload_n (j := 4) dX12_giveRound_74 rfl rfl ?_
          refine ev_callVI (As := [iv v1, iv v3]) (st := []) mfX12_gives mlX12_229 dX12_giveRound_75 rfl dm8_0 en8_0 rfl rfl rfl (by decide) (by decide) (by decide) (Nat.le_of_ble_eq_true rfl) (fun _ _ z => z.elim) h41 (fun x45 M43 h44 => ?_)
          refine ev_istore dX12_giveRound_78 (by decide) rfl ?_
          refine ev_aload_n (j := 2) dX12_giveRound_80 rfl rfl ?_
          refine ev_iload_n (j := 4) dX12_giveRound_81 rfl rfl ?_
          refine ev_iload_n (j := 5) dX12_giveRound_82 rfl rfl ?_
          refine ev_callVI (As := [iv v2, iv v3]) (st := []) mfX12_gives mlX12_229 dX12_giveRound_83 rfl dm8_0 en8_0 rfl rfl rfl (by decide) (by decide) (by decide) (Nat.le_of_ble_eq_true rfl) (fun _ _ z => z.elim) h44 (fun x48 M46 h47 => ?_)
          refine ev_pop dX12_giveRound_86 rfl ?_
          refine ev_aload_n (j := 2) dX12_giveRound_87 rfl rfl ?_
          refine ev_callVV (As := []) (st := []) mfX12_remembers mlX12_102 dX12_giveRound_88 rfl dm8_0 en8_0 rfl rfl rfl (by decide) (by decide) (by decide) (Nat.le_of_ble_eq_true rfl) (fun _ _ z => z.elim) h47 (fun M49 h50 => ?_)
          refine ev_iload (j := 0) dX12_giveRound_91 rfl ?_
          exact ev_iret dX12_giveRound_93 (by decide) rfl h50
        · have h52 := h37 c38
          refine ev_aload_n (j := 1) dX12_giveRound_56 rfl rfl ?_
          refine ev_iload (j := 0) dX12_giveRound_57 rfl ?_
          refine ev_put fwX12_226 dX12_giveRound_59 dm8_0 en8_0 rfl rfl rfl (Nat.le_of_ble_eq_true rfl) ?_
          refine ev_aload_n (j := 1) dX12_giveRound_62 rfl rfl ?_
          refine ev_iconst dX12_giveRound_63 ?_
          refine ev_callVI (As := [iv 2]) (st := []) mfX12_fails mlX12_146 dX12_giveRound_64 rfl dm8_0 en8_0 rfl rfl rfl (by decide) (by decide) (by decide) (Nat.le_of_ble_eq_true rfl) (fun _ _ z => z.elim) h52 (fun x55 M53 h54 => ?_)
          exact ev_iret dX12_giveRound_67 (by decide) rfl h54
def eX12_gives (G : GT) (K : List Value → Mem → Prop) (X : String → Mem → Prop) (pc : Nat) (lv : List (Nat × Value)) (st : List Value) (M : Mem) : Prop := Ex G zX12_gives 2 0 K X 0 pc lv st M
set_option maxRecDepth 20000 in
set_option maxHeartbeats 4000000 in
theorem bX12_gives {G : GT} {K : List Value → Mem → Prop} {X : String → Mem → Prop} {M : Mem} {v1 v2 : Int} (h : Call G 1 0 zX12_placeFor [rr G 8 0 0, iv v1, iv v2] M (kI (fun x3 M1 => 0 ≤ 171 + v2 ∧ 171 + v2 < 500 ∧ eX12_gives G K X 19 [(0, rr G 8 0 0), (1, iv v1), (2, iv v2), (3, iv x3), (4, iv (M1 8 0 1 (171 + v2)))] [] M1)) noX) : Call G 2 0 zX12_gives [rr G 8 0 0, iv v1, iv v2] M K X := by
  refine call_intro (lv := [(0, rr G 8 0 0), (1, iv v1), (2, iv v2)]) (by decide) rfl (Nat.le_of_ble_eq_true rfl) rfl ?_
  refine ev_aload_n (j := 0) dX12_gives_0 rfl rfl ?_
  refine ev_iload_n (j := 1) dX12_gives_1 rfl rfl ?_
  refine ev_iload_n (j := 2) dX12_gives_2 rfl rfl ?_
  refine ev_callVI (As := [iv v1, iv v2]) (st := []) mfX12_placeFor mlX12_217 dX12_gives_3 rfl dm8_0 en8_0 rfl rfl rfl (by decide) (by decide) (by decide) (Nat.le_of_ble_eq_true rfl) (fun _ _ z => z.elim) h (fun x3 M1 h2 => ?_)
  refine ev_istore_n dX12_gives_6 rfl (by decide) rfl ?_
  refine ev_aload_n (j := 1) dX12_gives_7 rfl rfl ?_
  refine ev_get frX12_7 dX12_gives_8 dm8_0 en8_0 rfl ?_
  refine ev_sipush dX12_gives_11 (by decide) ?_
  refine ev_iload_n (j := 3) dX12_gives_14 rfl rfl ?_
  refine ev_iadd dX12_gives_15 ?_
  obtain ⟨s4, s5, h6⟩ := h2
  refine ev_iald dX12_gives_16 dm8_1 ar8_1 (by decide) s4 s5 ?_
  refine ev_istore dX12_gives_17 (by decide) rfl ?_
  exact ev_sub [2, 3, 4, 1, 0] rfl h6
set_option maxRecDepth 20000 in
set_option maxHeartbeats 4000000 in
theorem bX12_gives_19 {G : GT} {K : List Value → Mem → Prop} {X : String → Mem → Prop} {M : Mem} {v1 v2 v3 v4 : Int} (h : I32 v4 ∧ I32 v3 ∧ ((¬ v3 < v4 → 0 ≤ (181 + (30 * v2)) + v3 ∧ (181 + (30 * v2)) + v3 < 500 ∧ 0 ≤ 171 + v2 ∧ 171 + v2 < 500 ∧ ∀ M14 : Mem, M14 = wr (wr M 8 0 1 ((181 + (30 * v2)) + v3) v1) 8 0 1 (171 + v2) (((wr M 8 0 1 ((181 + (30 * v2)) + v3) v1) 8 0 1 (171 + v2)) + 1) → K [iv v3] M14) ∧ (v3 < v4 → Call G 0 0 zX12_dutyAt [rr G 8 0 0, iv v2, iv (v4 - 1)] M (kI (fun x20 M18 => 0 ≤ (181 + (30 * v2)) + v4 ∧ (181 + (30 * v2)) + v4 < 500 ∧ eX12_gives G K X 19 [(0, rr G 8 0 0), (1, iv v1), (2, iv v2), (3, iv v3), (4, iv (v4 + (-1)))] [] (wr M18 8 0 1 ((181 + (30 * v2)) + v4) x20))) noX))) : eX12_gives G K X 19 [(0, rr G 8 0 0), (1, iv v1), (2, iv v2), (3, iv v3), (4, iv v4)] [] M := by
  show Ex G zX12_gives 2 0 K X 0 19 [(0, rr G 8 0 0), (1, iv v1), (2, iv v2), (3, iv v3), (4, iv v4)] [] M
  refine ev_iload (j := 4) dX12_gives_19 rfl ?_
  refine ev_iload_n (j := 3) dX12_gives_21 rfl rfl ?_
  obtain ⟨s1, s2, h3⟩ := h
  obtain ⟨h4, h5⟩ := h3
  refine ev_icmp_le 56 dX12_gives_22 (by decide) s1 s2 (fun c6 => ?_) (fun c6 => ?_)
  · have h7 := h4 c6
    refine ev_aload_n (j := 0) dX12_gives_56 rfl rfl ?_
    refine ev_get frX12_7 dX12_gives_57 dm8_0 en8_0 rfl ?_
    refine ev_sipush dX12_gives_60 (by decide) ?_
    refine ev_bipush dX12_gives_63 (by decide) ?_
    refine ev_iload_n (j := 2) dX12_gives_65 rfl rfl ?_
    refine ev_imul dX12_gives_66 ?_
    refine ev_iadd dX12_gives_67 ?_
    refine ev_iload_n (j := 3) dX12_gives_68 rfl rfl ?_
    refine ev_iadd dX12_gives_69 ?_
    refine ev_iload_n (j := 1) dX12_gives_70 rfl rfl ?_
    obtain ⟨s8, s9, h10⟩ := h7
    refine ev_iast dX12_gives_71 dm8_1 ar8_1 (by decide) s8 s9 ?_
    refine ev_aload_n (j := 0) dX12_gives_72 rfl rfl ?_
    refine ev_get frX12_7 dX12_gives_73 dm8_0 en8_0 rfl ?_
    refine ev_sipush dX12_gives_76 (by decide) ?_
    refine ev_iload_n (j := 2) dX12_gives_79 rfl rfl ?_
    refine ev_iadd dX12_gives_80 ?_
    refine ev_dup2 dX12_gives_81 rfl rfl ?_
    obtain ⟨s11, s12, h13⟩ := h10
    refine ev_iald dX12_gives_82 dm8_1 ar8_1 (by decide) s11 s12 ?_
    refine ev_iconst dX12_gives_83 ?_
    refine ev_iadd dX12_gives_84 ?_
    refine ev_iast dX12_gives_85 dm8_1 ar8_1 (by decide) s11 s12 ?_
    obtain ⟨M14, e16⟩ : ∃ M14 : Mem, M14 = wr (wr M 8 0 1 ((181 + (30 * v2)) + v3) v1) 8 0 1 (171 + v2) (((wr M 8 0 1 ((181 + (30 * v2)) + v3) v1) 8 0 1 (171 + v2)) + 1) := ⟨_, rfl⟩
    have h15 := h13 _ e16
    refine ev_mem e16 ?_
    refine ev_iload_n (j := 3) dX12_gives_86 rfl rfl ?_
    exact ev_iret dX12_gives_87 (by decide) rfl h15
  · have h17 := h5 c6
    refine ev_aload_n (j := 0) dX12_gives_25 rfl rfl ?_
    refine ev_get frX12_7 dX12_gives_26 dm8_0 en8_0 rfl ?_
    refine ev_sipush dX12_gives_29 (by decide) ?_
    refine ev_bipush dX12_gives_32 (by decide) ?_
    refine ev_iload_n (j := 2) dX12_gives_34 rfl rfl ?_
    refine ev_imul dX12_gives_35 ?_
    refine ev_iadd dX12_gives_36 ?_
    refine ev_iload (j := 4) dX12_gives_37 rfl ?_
    refine ev_iadd dX12_gives_39 ?_
    refine ev_aload_n (j := 0) dX12_gives_40 rfl rfl ?_
    refine ev_iload_n (j := 2) dX12_gives_41 rfl rfl ?_
    refine ev_iload (j := 4) dX12_gives_42 rfl ?_
    refine ev_iconst dX12_gives_44 ?_
    refine ev_isub dX12_gives_45 ?_
    refine ev_callVI (As := [iv v2, iv (v4 - 1)]) (st := [iv ((181 + (30 * v2)) + v4), rr G 8 0 1]) mfX12_dutyAt mlX12_126 dX12_gives_46 rfl dm8_0 en8_0 rfl rfl rfl (by decide) (by decide) (by decide) (Nat.le_of_ble_eq_true rfl) (fun _ _ z => z.elim) h17 (fun x20 M18 h19 => ?_)
    obtain ⟨s21, s22, h23⟩ := h19
    refine ev_iast dX12_gives_49 dm8_1 ar8_1 (by decide) s21 s22 ?_
    refine ev_iinc (j := 4) dX12_gives_50 rfl (by decide) rfl ?_
    refine ev_goto 19 dX12_gives_53 (by decide) ?_
    exact ev_sub [1, 2, 3, 4, 0] rfl h23
def eX12_hasArrived (G : GT) (K : List Value → Mem → Prop) (X : String → Mem → Prop) (pc : Nat) (lv : List (Nat × Value)) (st : List Value) (M : Mem) : Prop := Ex G zX12_hasArrived 1 0 K X 0 pc lv st M
set_option maxRecDepth 20000 in
set_option maxHeartbeats 4000000 in
theorem bX12_hasArrived {G : GT} {K : List Value → Mem → Prop} {X : String → Mem → Prop} {M : Mem} {v1 : Int} (h : Call G 0 0 zX12_last [rr G 8 0 0, iv v1] M (kI (fun x3 M1 => 0 ≤ (12 * v1) + x3 ∧ (12 * v1) + x3 < 360 ∧ I32 (M1 8 0 12 ((12 * v1) + x3)) ∧ (((M1 8 0 12 ((12 * v1) + x3)) < 0 → K [iv 0] M1) ∧ (¬ (M1 8 0 12 ((12 * v1) + x3)) < 0 → K [iv 1] M1)))) noX) : Call G 1 0 zX12_hasArrived [rr G 8 0 0, iv v1] M K X := by
  refine call_intro (lv := [(0, rr G 8 0 0), (1, iv v1)]) (by decide) rfl (Nat.le_of_ble_eq_true rfl) rfl ?_
  refine ev_aload_n (j := 0) dX12_hasArrived_0 rfl rfl ?_
  refine ev_get frX12_43 dX12_hasArrived_1 dm8_0 en8_0 rfl ?_
  refine ev_bipush dX12_hasArrived_4 (by decide) ?_
  refine ev_iload_n (j := 1) dX12_hasArrived_6 rfl rfl ?_
  refine ev_imul dX12_hasArrived_7 ?_
  refine ev_aload_n (j := 0) dX12_hasArrived_8 rfl rfl ?_
  refine ev_iload_n (j := 1) dX12_hasArrived_9 rfl rfl ?_
  refine ev_callVI (As := [iv v1]) (st := [iv (12 * v1), rr G 8 0 12]) mfX12_last mlX12_116 dX12_hasArrived_10 rfl dm8_0 en8_0 rfl rfl rfl (by decide) (by decide) (by decide) (Nat.le_of_ble_eq_true rfl) (fun _ _ z => z.elim) h (fun x3 M1 h2 => ?_)
  refine ev_iadd dX12_hasArrived_13 ?_
  obtain ⟨s4, s5, h6⟩ := h2
  refine ev_iald dX12_hasArrived_14 dm8_12 ar8_12 (by decide) s4 s5 ?_
  obtain ⟨s7, h8⟩ := h6
  obtain ⟨h9, h10⟩ := h8
  refine ev_if_lt 22 dX12_hasArrived_15 (by decide) s7 (fun c11 => ?_) (fun c11 => ?_)
  · have h12 := h9 c11
    refine ev_iconst dX12_hasArrived_22 ?_
    exact ev_zret dX12_hasArrived_23 (by decide) rfl (by decide) h12
  · have h13 := h10 c11
    refine ev_iconst dX12_hasArrived_18 ?_
    refine ev_goto 23 dX12_hasArrived_19 (by decide) ?_
    exact ev_zret dX12_hasArrived_23 (by decide) rfl (by decide) h13
def eX12_headway (G : GT) (K : List Value → Mem → Prop) (X : String → Mem → Prop) (pc : Nat) (lv : List (Nat × Value)) (st : List Value) (M : Mem) : Prop := Ex G zX12_headway 4 0 K X 0 pc lv st M
set_option maxRecDepth 20000 in
set_option maxHeartbeats 4000000 in
theorem bX12_headway {G : GT} {K : List Value → Mem → Prop} {X : String → Mem → Prop} {M : Mem} {v1 v2 v3 : Int} (h : Call G 0 0 zX12_in [iv v1, iv 0, iv 1] M (kI (fun x3 M1 => I32 x3 ∧ ((x3 = 0 → K [iv 0] (wr M1 8 0 0 7 1)) ∧ (¬ x3 = 0 → Call G 1 0 zX12_isStop [iv v2] M1 (kI (fun x13 M11 => I32 x13 ∧ ((x13 = 0 → K [iv 0] (wr M11 8 0 0 7 1)) ∧ (¬ x13 = 0 → Call G 3 0 zX12_passages [rr G 8 0 0, iv v1, iv v2] (wr M11 8 0 0 7 0) (kV (fun M21 => I32 (M21 8 0 0 10) ∧ ((¬ (M21 8 0 0 10) < 2 → eX12_headway G K X 72 [(0, rr G 8 0 0), (3, iv v3), (4, iv ((M21 8 0 5 1) - (M21 8 0 5 0))), (5, iv 2)] [] M21) ∧ ((M21 8 0 0 10) < 2 → Call G 0 0 zX12_fails [rr G 8 0 0, iv 2] M21 (kI (fun x33 M31 => K [iv x33] M31)) noX)))) noX)))) noX)))) noX) : Call G 4 0 zX12_headway [rr G 8 0 0, iv v1, iv v2, iv v3] M K X := by
  refine call_intro (lv := [(0, rr G 8 0 0), (1, iv v1), (2, iv v2), (3, iv v3)]) (by decide) rfl (Nat.le_of_ble_eq_true rfl) rfl ?_
  refine ev_aload_n (j := 0) dX12_headway_0 rfl rfl ?_
  refine ev_iload_n (j := 1) dX12_headway_1 rfl rfl ?_
  refine ev_iconst dX12_headway_2 ?_
  refine ev_iconst dX12_headway_3 ?_
  refine ev_callSI (As := [iv v1, iv 0, iv 1]) (st := [rr G 8 0 0]) mfX12_in mlX12_87 dX12_headway_4 rfl rfl (by decide) (by decide) (by decide) (Nat.le_of_ble_eq_true rfl) (fun _ _ z => z.elim) h (fun x3 M1 h2 => ?_)
  obtain ⟨s4, h5⟩ := h2
  obtain ⟨h6, h7⟩ := h5
  refine ev_if_eq 21 dX12_headway_7 (by decide) s4 (fun c8 => ?_) (fun c8 => ?_)
  · have h9 := h6 c8
    refine ev_iconst dX12_headway_21 ?_
    refine ev_put fwX12_84 dX12_headway_22 dm8_0 en8_0 rfl rfl rfl (Nat.le_of_ble_eq_true rfl) ?_
    refine ev_aload_n (j := 0) dX12_headway_25 rfl rfl ?_
    refine ev_get frX12_84 dX12_headway_26 dm8_0 en8_0 rfl ?_
    refine ev_topI (b := 1) rfl ?_
    refine ev_if_le 34 dX12_headway_29 (by decide) ⟨by decide, by decide⟩ (fun c9 => absurd c9 (by decide)) (fun _ => ?_)
    refine ev_iconst dX12_headway_32 ?_
    exact ev_iret dX12_headway_33 (by decide) rfl h9
  · have h10 := h7 c8
    refine ev_iload_n (j := 2) dX12_headway_10 rfl rfl ?_
    refine ev_callSI (As := [iv v2]) (st := [rr G 8 0 0]) mfX12_isStop mlX12_155 dX12_headway_11 rfl rfl (by decide) (by decide) (by decide) (Nat.le_of_ble_eq_true rfl) (fun _ _ z => z.elim) h10 (fun x13 M11 h12 => ?_)
    obtain ⟨s14, h15⟩ := h12
    obtain ⟨h16, h17⟩ := h15
    refine ev_if_eq 21 dX12_headway_14 (by decide) s14 (fun c18 => ?_) (fun c18 => ?_)
    · have h19 := h16 c18
      refine ev_iconst dX12_headway_21 ?_
      refine ev_put fwX12_84 dX12_headway_22 dm8_0 en8_0 rfl rfl rfl (Nat.le_of_ble_eq_true rfl) ?_
      refine ev_aload_n (j := 0) dX12_headway_25 rfl rfl ?_
      refine ev_get frX12_84 dX12_headway_26 dm8_0 en8_0 rfl ?_
      refine ev_topI (b := 1) rfl ?_
      refine ev_if_le 34 dX12_headway_29 (by decide) ⟨by decide, by decide⟩ (fun c9 => absurd c9 (by decide)) (fun _ => ?_)
      refine ev_iconst dX12_headway_32 ?_
      exact ev_iret dX12_headway_33 (by decide) rfl h19
    · have h20 := h17 c18
      refine ev_iconst dX12_headway_17 ?_
      refine ev_goto 22 dX12_headway_18 (by decide) ?_
      refine ev_put fwX12_84 dX12_headway_22 dm8_0 en8_0 rfl rfl rfl (Nat.le_of_ble_eq_true rfl) ?_
      refine ev_aload_n (j := 0) dX12_headway_25 rfl rfl ?_
      refine ev_get frX12_84 dX12_headway_26 dm8_0 en8_0 rfl ?_
      refine ev_topI (b := 0) rfl ?_
      refine ev_if_le 34 dX12_headway_29 (by decide) ⟨by decide, by decide⟩ (fun _ => ?_) (fun c9 => absurd c9 (by decide))
      refine ev_aload_n (j := 0) dX12_headway_34 rfl rfl ?_
      refine ev_iload_n (j := 1) dX12_headway_35 rfl rfl ?_
      refine ev_iload_n (j := 2) dX12_headway_36 rfl rfl ?_
      refine ev_callVV (As := [iv v1, iv v2]) (st := []) mfX12_passages mlX12_211 dX12_headway_37 rfl dm8_0 en8_0 rfl rfl rfl (by decide) (by decide) (by decide) (Nat.le_of_ble_eq_true rfl) (fun _ _ z => z.elim) h20 (fun M21 h22 => ?_)
      refine ev_aload_n (j := 0) dX12_headway_40 rfl rfl ?_
      refine ev_get frX12_201 dX12_headway_41 dm8_0 en8_0 rfl ?_
      refine ev_iconst dX12_headway_44 ?_
      obtain ⟨s24, h25⟩ := h22
      obtain ⟨h26, h27⟩ := h25
      refine ev_icmp_ge 54 dX12_headway_45 (by decide) s24 ⟨by decide, by decide⟩ (fun c28 => ?_) (fun c28 => ?_)
      · have h29 := h26 c28
        refine ev_aload_n (j := 0) dX12_headway_54 rfl rfl ?_
        refine ev_get frX12_22 dX12_headway_55 dm8_0 en8_0 rfl ?_
        refine ev_iconst dX12_headway_58 ?_
        refine ev_iald dX12_headway_59 dm8_5 ar8_5 (by decide) (by decide) (by decide) ?_
        refine ev_aload_n (j := 0) dX12_headway_60 rfl rfl ?_
        refine ev_get frX12_22 dX12_headway_61 dm8_0 en8_0 rfl ?_
        refine ev_iconst dX12_headway_64 ?_
        refine ev_iald dX12_headway_65 dm8_5 ar8_5 (by decide) (by decide) (by decide) ?_
        refine ev_isub dX12_headway_66 ?_
        refine ev_istore dX12_headway_67 (by decide) rfl ?_
        refine ev_iconst dX12_headway_69 ?_
        refine ev_istore dX12_headway_70 (by decide) rfl ?_
        exact ev_sub [2, 5, 1, 0] rfl h29
      · have h30 := h27 c28
        refine ev_aload_n (j := 0) dX12_headway_48 rfl rfl ?_
        refine ev_iconst dX12_headway_49 ?_
        refine ev_callVI (As := [iv 2]) (st := []) mfX12_fails mlX12_146 dX12_headway_50 rfl dm8_0 en8_0 rfl rfl rfl (by decide) (by decide) (by decide) (Nat.le_of_ble_eq_true rfl) (fun _ _ z => z.elim) h30 (fun x33 M31 h32 => ?_)
        exact ev_iret dX12_headway_53 (by decide) rfl h32
set_option maxRecDepth 20000 in
set_option maxHeartbeats 4000000 in
theorem bX12_headway_72 {G : GT} {K : List Value → Mem → Prop} {X : String → Mem → Prop} {M : Mem} {v3 v4 v5 : Int} (h : I32 v5 ∧ I32 (M 8 0 0 10) ∧ ((¬ v5 < (M 8 0 0 10) → K [iv v4] M) ∧ (v5 < (M 8 0 0 10) → 0 ≤ v5 ∧ v5 < 30 ∧ 0 ≤ v5 - 1 ∧ v5 - 1 < 30 ∧ I32 v3 ∧ ((v3 = 0 → I32 ((M 8 0 5 v5) - (M 8 0 5 (v5 - 1))) ∧ I32 v4 ∧ ((¬ ((M 8 0 5 v5) - (M 8 0 5 (v5 - 1))) < v4 → eX12_headway G K X 72 [(0, rr G 8 0 0), (3, iv v3), (4, iv v4), (5, iv (v5 + 1))] [] M) ∧ (((M 8 0 5 v5) - (M 8 0 5 (v5 - 1))) < v4 → eX12_headway G K X 72 [(0, rr G 8 0 0), (3, iv v3), (4, iv ((M 8 0 5 v5) - (M 8 0 5 (v5 - 1)))), (5, iv (v5 + 1))] [] M))) ∧ (¬ v3 = 0 → I32 ((M 8 0 5 v5) - (M 8 0 5 (v5 - 1))) ∧ I32 v4 ∧ ((¬ v4 < ((M 8 0 5 v5) - (M 8 0 5 (v5 - 1))) → eX12_headway G K X 72 [(0, rr G 8 0 0), (3, iv v3), (4, iv v4), (5, iv (v5 + 1))] [] M) ∧ (v4 < ((M 8 0 5 v5) - (M 8 0 5 (v5 - 1))) → eX12_headway G K X 72 [(0, rr G 8 0 0), (3, iv v3), (4, iv ((M 8 0 5 v5) - (M 8 0 5 (v5 - 1)))), (5, iv (v5 + 1))] [] M))))))) : eX12_headway G K X 72 [(0, rr G 8 0 0), (3, iv v3), (4, iv v4), (5, iv v5)] [] M := by
  show Ex G zX12_headway 4 0 K X 0 72 [(0, rr G 8 0 0), (3, iv v3), (4, iv v4), (5, iv v5)] [] M
  refine ev_iload (j := 3) dX12_headway_72 rfl ?_
  refine ev_aload_n (j := 0) dX12_headway_74 rfl rfl ?_
  refine ev_get frX12_201 dX12_headway_75 dm8_0 en8_0 rfl ?_
  obtain ⟨s1, s2, h3⟩ := h
  obtain ⟨h4, h5⟩ := h3
  refine ev_icmp_ge 143 dX12_headway_78 (by decide) s1 s2 (fun c6 => ?_) (fun c6 => ?_)
  · have h7 := h4 c6
    refine ev_iload (j := 2) dX12_headway_143 rfl ?_
    exact ev_iret dX12_headway_145 (by decide) rfl h7
  · have h8 := h5 c6
    refine ev_aload_n (j := 0) dX12_headway_81 rfl rfl ?_
    refine ev_get frX12_22 dX12_headway_82 dm8_0 en8_0 rfl ?_
    refine ev_iload (j := 3) dX12_headway_85 rfl ?_
    obtain ⟨s9, s10, h11⟩ := h8
    refine ev_iald dX12_headway_87 dm8_5 ar8_5 (by decide) s9 s10 ?_
    refine ev_aload_n (j := 0) dX12_headway_88 rfl rfl ?_
    refine ev_get frX12_22 dX12_headway_89 dm8_0 en8_0 rfl ?_
    refine ev_iload (j := 3) dX12_headway_92 rfl ?_
    refine ev_iconst dX12_headway_94 ?_
    refine ev_isub dX12_headway_95 ?_
    obtain ⟨s12, s13, h14⟩ := h11
    refine ev_iald dX12_headway_96 dm8_5 ar8_5 (by decide) s12 s13 ?_
    refine ev_isub dX12_headway_97 ?_
    refine ev_istore dX12_headway_98 (by decide) rfl ?_
    refine ev_iload_n (j := 2) dX12_headway_100 rfl rfl ?_
    obtain ⟨s15, h16⟩ := h14
    obtain ⟨h17, h18⟩ := h16
    refine ev_if_eq 121 dX12_headway_101 (by decide) s15 (fun c19 => ?_) (fun c19 => ?_)
    · have h20 := h17 c19
      refine ev_iload (j := 0) dX12_headway_121 rfl ?_
      refine ev_iload (j := 3) dX12_headway_123 rfl ?_
      obtain ⟨s21, s22, h23⟩ := h20
      obtain ⟨h24, h25⟩ := h23
      refine ev_icmp_ge 133 dX12_headway_125 (by decide) s21 s22 (fun c26 => ?_) (fun c26 => ?_)
      · have h27 := h24 c26
        refine ev_iload (j := 3) dX12_headway_133 rfl ?_
        refine ev_istore dX12_headway_135 (by decide) rfl ?_
        refine ev_iinc (j := 4) dX12_headway_137 rfl (by decide) rfl ?_
        refine ev_goto 72 dX12_headway_140 (by decide) ?_
        exact ev_sub [3, 4, 1, 0] rfl h27
      · have h28 := h25 c26
        refine ev_iload (j := 0) dX12_headway_128 rfl ?_
        refine ev_goto 135 dX12_headway_130 (by decide) ?_
        refine ev_istore dX12_headway_135 (by decide) rfl ?_
        refine ev_iinc (j := 4) dX12_headway_137 rfl (by decide) rfl ?_
        refine ev_goto 72 dX12_headway_140 (by decide) ?_
        exact ev_sub [3, 4, 1, 0] rfl h28
    · have h29 := h18 c19
      refine ev_iload (j := 0) dX12_headway_104 rfl ?_
      refine ev_iload (j := 3) dX12_headway_106 rfl ?_
      obtain ⟨s30, s31, h32⟩ := h29
      obtain ⟨h33, h34⟩ := h32
      refine ev_icmp_le 116 dX12_headway_108 (by decide) s30 s31 (fun c35 => ?_) (fun c35 => ?_)
      · have h36 := h33 c35
        refine ev_iload (j := 3) dX12_headway_116 rfl ?_
        refine ev_goto 135 dX12_headway_118 (by decide) ?_
        refine ev_istore dX12_headway_135 (by decide) rfl ?_
        refine ev_iinc (j := 4) dX12_headway_137 rfl (by decide) rfl ?_
        refine ev_goto 72 dX12_headway_140 (by decide) ?_
        exact ev_sub [3, 4, 1, 0] rfl h36
      · have h37 := h34 c35
        refine ev_iload (j := 0) dX12_headway_111 rfl ?_
        refine ev_goto 135 dX12_headway_113 (by decide) ?_
        refine ev_istore dX12_headway_135 (by decide) rfl ?_
        refine ev_iinc (j := 4) dX12_headway_137 rfl (by decide) rfl ?_
        refine ev_goto 72 dX12_headway_140 (by decide) ?_
        exact ev_sub [3, 4, 1, 0] rfl h37
def eX12_here (G : GT) (K : List Value → Mem → Prop) (X : String → Mem → Prop) (pc : Nat) (lv : List (Nat × Value)) (st : List Value) (M : Mem) : Prop := Ex G zX12_here 0 0 K X 0 pc lv st M
set_option maxRecDepth 20000 in
set_option maxHeartbeats 4000000 in
theorem bX12_here {G : GT} {K : List Value → Mem → Prop} {X : String → Mem → Prop} {M : Mem} (h : I32 (M 8 0 0 34) ∧ I32 (M 8 0 0 33) ∧ ((¬ (M 8 0 0 34) < (M 8 0 0 33) → K [iv (-1)] M) ∧ ((M 8 0 0 34) < (M 8 0 0 33) → 0 ≤ M 8 0 0 34 ∧ M 8 0 0 34 < 60 ∧ K [iv (M 8 0 22 (M 8 0 0 34))] M))) : Call G 0 0 zX12_here [rr G 8 0 0] M K X := by
  refine call_intro (lv := [(0, rr G 8 0 0)]) (by decide) rfl (Nat.le_of_ble_eq_true rfl) rfl ?_
  refine ev_aload_n (j := 0) dX12_here_0 rfl rfl ?_
  refine ev_get frX12_332 dX12_here_1 dm8_0 en8_0 rfl ?_
  refine ev_aload_n (j := 0) dX12_here_4 rfl rfl ?_
  refine ev_get frX12_329 dX12_here_5 dm8_0 en8_0 rfl ?_
  obtain ⟨s1, s2, h3⟩ := h
  obtain ⟨h4, h5⟩ := h3
  refine ev_icmp_ge 23 dX12_here_8 (by decide) s1 s2 (fun c6 => ?_) (fun c6 => ?_)
  · have h7 := h4 c6
    refine ev_iconst dX12_here_23 ?_
    exact ev_iret dX12_here_24 (by decide) rfl h7
  · have h8 := h5 c6
    refine ev_aload_n (j := 0) dX12_here_11 rfl rfl ?_
    refine ev_get frX12_74 dX12_here_12 dm8_0 en8_0 rfl ?_
    refine ev_aload_n (j := 0) dX12_here_15 rfl rfl ?_
    refine ev_get frX12_332 dX12_here_16 dm8_0 en8_0 rfl ?_
    obtain ⟨s9, s10, h11⟩ := h8
    refine ev_iald dX12_here_19 dm8_22 ar8_22 (by decide) s9 s10 ?_
    refine ev_goto 24 dX12_here_20 (by decide) ?_
    exact ev_iret dX12_here_24 (by decide) rfl h11
def eX12_homeStop (G : GT) (K : List Value → Mem → Prop) (X : String → Mem → Prop) (pc : Nat) (lv : List (Nat × Value)) (st : List Value) (M : Mem) : Prop := Ex G zX12_homeStop 0 0 K X 0 pc lv st M
set_option maxRecDepth 20000 in
set_option maxHeartbeats 4000000 in
theorem bX12_homeStop {G : GT} {K : List Value → Mem → Prop} {X : String → Mem → Prop} {M : Mem} {v1 : Int} (h : 0 ≤ 161 + v1 ∧ 161 + v1 < 500 ∧ I32 (M 8 0 1 (161 + v1)) ∧ ((¬ (M 8 0 1 (161 + v1)) = 0 → K [iv 11] M) ∧ ((M 8 0 1 (161 + v1)) = 0 → K [iv 0] M))) : Call G 0 0 zX12_homeStop [rr G 8 0 0, iv v1] M K X := by
  refine call_intro (lv := [(0, rr G 8 0 0), (1, iv v1)]) (by decide) rfl (Nat.le_of_ble_eq_true rfl) rfl ?_
  refine ev_aload_n (j := 0) dX12_homeStop_0 rfl rfl ?_
  refine ev_get frX12_7 dX12_homeStop_1 dm8_0 en8_0 rfl ?_
  refine ev_sipush dX12_homeStop_4 (by decide) ?_
  refine ev_iload_n (j := 1) dX12_homeStop_7 rfl rfl ?_
  refine ev_iadd dX12_homeStop_8 ?_
  obtain ⟨s1, s2, h3⟩ := h
  refine ev_iald dX12_homeStop_9 dm8_1 ar8_1 (by decide) s1 s2 ?_
  obtain ⟨s4, h5⟩ := h3
  obtain ⟨h6, h7⟩ := h5
  refine ev_if_ne 17 dX12_homeStop_10 (by decide) s4 (fun c8 => ?_) (fun c8 => ?_)
  · have h9 := h6 c8
    refine ev_bipush dX12_homeStop_17 (by decide) ?_
    exact ev_iret dX12_homeStop_19 (by decide) rfl h9
  · have h10 := h7 c8
    refine ev_iconst dX12_homeStop_13 ?_
    refine ev_goto 19 dX12_homeStop_14 (by decide) ?_
    exact ev_iret dX12_homeStop_19 (by decide) rfl h10
def eX12_in (G : GT) (K : List Value → Mem → Prop) (X : String → Mem → Prop) (pc : Nat) (lv : List (Nat × Value)) (st : List Value) (M : Mem) : Prop := Ex G zX12_in 0 0 K X 0 pc lv st M
set_option maxRecDepth 20000 in
set_option maxHeartbeats 4000000 in
theorem bX12_in {G : GT} {K : List Value → Mem → Prop} {X : String → Mem → Prop} {M : Mem} {v0 v1 v2 : Int} (h : I32 v0 ∧ I32 v1 ∧ ((v0 < v1 → K [iv 0] M) ∧ (¬ v0 < v1 → I32 v2 ∧ ((v2 < v0 → K [iv 0] M) ∧ (¬ v2 < v0 → K [iv 1] M))))) : Call G 0 0 zX12_in [iv v0, iv v1, iv v2] M K X := by
  refine call_intro (lv := [(0, iv v0), (1, iv v1), (2, iv v2)]) (by decide) rfl (Nat.le_of_ble_eq_true rfl) rfl ?_
  refine ev_iload_n (j := 0) dX12_in_0 rfl rfl ?_
  refine ev_iload_n (j := 1) dX12_in_1 rfl rfl ?_
  obtain ⟨s1, s2, h3⟩ := h
  obtain ⟨h4, h5⟩ := h3
  refine ev_icmp_lt 14 dX12_in_2 (by decide) s1 s2 (fun c6 => ?_) (fun c6 => ?_)
  · have h7 := h4 c6
    refine ev_iconst dX12_in_14 ?_
    exact ev_zret dX12_in_15 (by decide) rfl (by decide) h7
  · have h8 := h5 c6
    refine ev_iload_n (j := 0) dX12_in_5 rfl rfl ?_
    refine ev_iload_n (j := 2) dX12_in_6 rfl rfl ?_
    obtain ⟨s9, h10⟩ := h8
    obtain ⟨h11, h12⟩ := h10
    refine ev_icmp_gt 14 dX12_in_7 (by decide) s1 s9 (fun c13 => ?_) (fun c13 => ?_)
    · have h14 := h11 c13
      refine ev_iconst dX12_in_14 ?_
      exact ev_zret dX12_in_15 (by decide) rfl (by decide) h14
    · have h15 := h12 c13
      refine ev_iconst dX12_in_10 ?_
      refine ev_goto 15 dX12_in_11 (by decide) ?_
      exact ev_zret dX12_in_15 (by decide) rfl (by decide) h15
def eX12_inDuties (G : GT) (K : List Value → Mem → Prop) (X : String → Mem → Prop) (pc : Nat) (lv : List (Nat × Value)) (st : List Value) (M : Mem) : Prop := Ex G zX12_inDuties 0 0 K X 0 pc lv st M
set_option maxRecDepth 20000 in
set_option maxHeartbeats 4000000 in
theorem bX12_inDuties {G : GT} {K : List Value → Mem → Prop} {X : String → Mem → Prop} {M : Mem} (h : eX12_inDuties G K X 4 [(0, rr G 8 0 0), (1, iv 0), (2, iv 0)] [] M) : Call G 0 0 zX12_inDuties [rr G 8 0 0] M K X := by
  refine call_intro (lv := [(0, rr G 8 0 0)]) (by decide) rfl (Nat.le_of_ble_eq_true rfl) rfl ?_
  refine ev_iconst dX12_inDuties_0 ?_
  refine ev_istore_n dX12_inDuties_1 rfl (by decide) rfl ?_
  refine ev_iconst dX12_inDuties_2 ?_
  refine ev_istore_n dX12_inDuties_3 rfl (by decide) rfl ?_
  exact ev_sub [2, 1, 0] rfl h
set_option maxRecDepth 20000 in
set_option maxHeartbeats 4000000 in
theorem bX12_inDuties_4 {G : GT} {K : List Value → Mem → Prop} {X : String → Mem → Prop} {M : Mem} {v1 v2 : Int} (h : I32 v2 ∧ I32 (M 8 0 1 160) ∧ ((¬ v2 < (M 8 0 1 160) → K [iv v1] M) ∧ (v2 < (M 8 0 1 160) → 0 ≤ 171 + v2 ∧ 171 + v2 < 500 ∧ eX12_inDuties G K X 4 [(0, rr G 8 0 0), (1, iv (v1 + (M 8 0 1 (171 + v2)))), (2, iv (v2 + 1))] [] M))) : eX12_inDuties G K X 4 [(0, rr G 8 0 0), (1, iv v1), (2, iv v2)] [] M := by
  show Ex G zX12_inDuties 0 0 K X 0 4 [(0, rr G 8 0 0), (1, iv v1), (2, iv v2)] [] M
  refine ev_iload_n (j := 2) dX12_inDuties_4 rfl rfl ?_
  refine ev_aload_n (j := 0) dX12_inDuties_5 rfl rfl ?_
  refine ev_get frX12_7 dX12_inDuties_6 dm8_0 en8_0 rfl ?_
  refine ev_sipush dX12_inDuties_9 (by decide) ?_
  refine ev_iald dX12_inDuties_12 dm8_1 ar8_1 (by decide) (by decide) (by decide) ?_
  obtain ⟨s1, s2, h3⟩ := h
  obtain ⟨h4, h5⟩ := h3
  refine ev_icmp_ge 35 dX12_inDuties_13 (by decide) s1 s2 (fun c6 => ?_) (fun c6 => ?_)
  · have h7 := h4 c6
    refine ev_iload_n (j := 1) dX12_inDuties_35 rfl rfl ?_
    exact ev_iret dX12_inDuties_36 (by decide) rfl h7
  · have h8 := h5 c6
    refine ev_iload_n (j := 1) dX12_inDuties_16 rfl rfl ?_
    refine ev_aload_n (j := 0) dX12_inDuties_17 rfl rfl ?_
    refine ev_get frX12_7 dX12_inDuties_18 dm8_0 en8_0 rfl ?_
    refine ev_sipush dX12_inDuties_21 (by decide) ?_
    refine ev_iload_n (j := 2) dX12_inDuties_24 rfl rfl ?_
    refine ev_iadd dX12_inDuties_25 ?_
    obtain ⟨s9, s10, h11⟩ := h8
    refine ev_iald dX12_inDuties_26 dm8_1 ar8_1 (by decide) s9 s10 ?_
    refine ev_iadd dX12_inDuties_27 ?_
    refine ev_istore_n dX12_inDuties_28 rfl (by decide) rfl ?_
    refine ev_iinc (j := 2) dX12_inDuties_29 rfl (by decide) rfl ?_
    refine ev_goto 4 dX12_inDuties_32 (by decide) ?_
    exact ev_sub [2, 1, 0] rfl h11
def eX12_isActive (G : GT) (K : List Value → Mem → Prop) (X : String → Mem → Prop) (pc : Nat) (lv : List (Nat × Value)) (st : List Value) (M : Mem) : Prop := Ex G zX12_isActive 0 0 K X 0 pc lv st M
set_option maxRecDepth 20000 in
set_option maxHeartbeats 4000000 in
theorem bX12_isActive {G : GT} {K : List Value → Mem → Prop} {X : String → Mem → Prop} {M : Mem} {v1 : Int} (h : 0 ≤ (40 + (4 * v1)) + 3 ∧ (40 + (4 * v1)) + 3 < 500 ∧ I32 (M 8 0 1 ((40 + (4 * v1)) + 3)) ∧ ((¬ (M 8 0 1 ((40 + (4 * v1)) + 3)) = 0 → K [iv 0] M) ∧ ((M 8 0 1 ((40 + (4 * v1)) + 3)) = 0 → K [iv 1] M))) : Call G 0 0 zX12_isActive [rr G 8 0 0, iv v1] M K X := by
  refine call_intro (lv := [(0, rr G 8 0 0), (1, iv v1)]) (by decide) rfl (Nat.le_of_ble_eq_true rfl) rfl ?_
  refine ev_aload_n (j := 0) dX12_isActive_0 rfl rfl ?_
  refine ev_get frX12_7 dX12_isActive_1 dm8_0 en8_0 rfl ?_
  refine ev_bipush dX12_isActive_4 (by decide) ?_
  refine ev_iconst dX12_isActive_6 ?_
  refine ev_iload_n (j := 1) dX12_isActive_7 rfl rfl ?_
  refine ev_imul dX12_isActive_8 ?_
  refine ev_iadd dX12_isActive_9 ?_
  refine ev_iconst dX12_isActive_10 ?_
  refine ev_iadd dX12_isActive_11 ?_
  obtain ⟨s1, s2, h3⟩ := h
  refine ev_iald dX12_isActive_12 dm8_1 ar8_1 (by decide) s1 s2 ?_
  obtain ⟨s4, h5⟩ := h3
  obtain ⟨h6, h7⟩ := h5
  refine ev_if_ne 20 dX12_isActive_13 (by decide) s4 (fun c8 => ?_) (fun c8 => ?_)
  · have h9 := h6 c8
    refine ev_iconst dX12_isActive_20 ?_
    exact ev_zret dX12_isActive_21 (by decide) rfl (by decide) h9
  · have h10 := h7 c8
    refine ev_iconst dX12_isActive_16 ?_
    refine ev_goto 21 dX12_isActive_17 (by decide) ?_
    exact ev_zret dX12_isActive_21 (by decide) rfl (by decide) h10
def eX12_isEnd (G : GT) (K : List Value → Mem → Prop) (X : String → Mem → Prop) (pc : Nat) (lv : List (Nat × Value)) (st : List Value) (M : Mem) : Prop := Ex G zX12_isEnd 1 0 K X 0 pc lv st M
set_option maxRecDepth 20000 in
set_option maxHeartbeats 4000000 in
theorem bX12_isEnd {G : GT} {K : List Value → Mem → Prop} {X : String → Mem → Prop} {M : Mem} {v1 : Int} (h : eX12_isEnd G K X 2 [(0, rr G 8 0 0), (1, iv v1), (2, iv 0)] [] M) : Call G 1 0 zX12_isEnd [rr G 8 0 0, iv v1] M K X := by
  refine call_intro (lv := [(0, rr G 8 0 0), (1, iv v1)]) (by decide) rfl (Nat.le_of_ble_eq_true rfl) rfl ?_
  refine ev_iconst dX12_isEnd_0 ?_
  refine ev_istore_n dX12_isEnd_1 rfl (by decide) rfl ?_
  exact ev_sub [1, 2, 0] rfl h
set_option maxRecDepth 20000 in
set_option maxHeartbeats 4000000 in
theorem bX12_isEnd_2 {G : GT} {K : List Value → Mem → Prop} {X : String → Mem → Prop} {M : Mem} {v1 v2 : Int} (h : I32 v2 ∧ I32 (M 8 0 1 37) ∧ ((¬ v2 < (M 8 0 1 37) → K [iv 0] M) ∧ (v2 < (M 8 0 1 37) → Call G 0 0 zX12_isActive [rr G 8 0 0, iv v2] M (kI (fun x11 M9 => I32 x11 ∧ ((x11 = 0 → eX12_isEnd G K X 2 [(0, rr G 8 0 0), (1, iv v1), (2, iv (v2 + 1))] [] M9) ∧ (¬ x11 = 0 → Call G 0 0 zX12_first [rr G 8 0 0, iv v2] M9 (kI (fun x21 M19 => I32 x21 ∧ I32 v1 ∧ ((x21 = v1 → K [iv 1] M19) ∧ (¬ x21 = v1 → Call G 0 0 zX12_last [rr G 8 0 0, iv v2] M19 (kI (fun x32 M30 => I32 x32 ∧ ((¬ x32 = v1 → eX12_isEnd G K X 2 [(0, rr G 8 0 0), (1, iv v1), (2, iv (v2 + 1))] [] M30) ∧ (x32 = v1 → K [iv 1] M30)))) noX)))) noX)))) noX))) : eX12_isEnd G K X 2 [(0, rr G 8 0 0), (1, iv v1), (2, iv v2)] [] M := by
  show Ex G zX12_isEnd 1 0 K X 0 2 [(0, rr G 8 0 0), (1, iv v1), (2, iv v2)] [] M
  refine ev_iload_n (j := 2) dX12_isEnd_2 rfl rfl ?_
  refine ev_aload_n (j := 0) dX12_isEnd_3 rfl rfl ?_
  refine ev_get frX12_7 dX12_isEnd_4 dm8_0 en8_0 rfl ?_
  refine ev_bipush dX12_isEnd_7 (by decide) ?_
  refine ev_iald dX12_isEnd_9 dm8_1 ar8_1 (by decide) (by decide) (by decide) ?_
  obtain ⟨s1, s2, h3⟩ := h
  obtain ⟨h4, h5⟩ := h3
  refine ev_icmp_ge 47 dX12_isEnd_10 (by decide) s1 s2 (fun c6 => ?_) (fun c6 => ?_)
  · have h7 := h4 c6
    refine ev_iconst dX12_isEnd_47 ?_
    exact ev_zret dX12_isEnd_48 (by decide) rfl (by decide) h7
  · have h8 := h5 c6
    refine ev_aload_n (j := 0) dX12_isEnd_13 rfl rfl ?_
    refine ev_iload_n (j := 2) dX12_isEnd_14 rfl rfl ?_
    refine ev_callVI (As := [iv v2]) (st := []) mfX12_isActive mlX12_149 dX12_isEnd_15 rfl dm8_0 en8_0 rfl rfl rfl (by decide) (by decide) (by decide) (Nat.le_of_ble_eq_true rfl) (fun _ _ z => z.elim) h8 (fun x11 M9 h10 => ?_)
    obtain ⟨s12, h13⟩ := h10
    obtain ⟨h14, h15⟩ := h13
    refine ev_if_eq 41 dX12_isEnd_18 (by decide) s12 (fun c16 => ?_) (fun c16 => ?_)
    · have h17 := h14 c16
      refine ev_iinc (j := 2) dX12_isEnd_41 rfl (by decide) rfl ?_
      refine ev_goto 2 dX12_isEnd_44 (by decide) ?_
      exact ev_sub [1, 2, 0] rfl h17
    · have h18 := h15 c16
      refine ev_aload_n (j := 0) dX12_isEnd_21 rfl rfl ?_
      refine ev_iload_n (j := 2) dX12_isEnd_22 rfl rfl ?_
      refine ev_callVI (As := [iv v2]) (st := []) mfX12_first mlX12_113 dX12_isEnd_23 rfl dm8_0 en8_0 rfl rfl rfl (by decide) (by decide) (by decide) (Nat.le_of_ble_eq_true rfl) (fun _ _ z => z.elim) h18 (fun x21 M19 h20 => ?_)
      refine ev_iload_n (j := 1) dX12_isEnd_26 rfl rfl ?_
      obtain ⟨s22, s23, h24⟩ := h20
      obtain ⟨h25, h26⟩ := h24
      refine ev_icmp_eq 39 dX12_isEnd_27 (by decide) s22 s23 (fun c27 => ?_) (fun c27 => ?_)
      · have h28 := h25 c27
        refine ev_iconst dX12_isEnd_39 ?_
        exact ev_zret dX12_isEnd_40 (by decide) rfl (by decide) h28
      · have h29 := h26 c27
        refine ev_aload_n (j := 0) dX12_isEnd_30 rfl rfl ?_
        refine ev_iload_n (j := 2) dX12_isEnd_31 rfl rfl ?_
        refine ev_callVI (As := [iv v2]) (st := []) mfX12_last mlX12_116 dX12_isEnd_32 rfl dm8_0 en8_0 rfl rfl rfl (by decide) (by decide) (by decide) (Nat.le_of_ble_eq_true rfl) (fun _ _ z => z.elim) h29 (fun x32 M30 h31 => ?_)
        refine ev_iload_n (j := 1) dX12_isEnd_35 rfl rfl ?_
        obtain ⟨s33, h34⟩ := h31
        obtain ⟨h35, h36⟩ := h34
        refine ev_icmp_ne 41 dX12_isEnd_36 (by decide) s33 s23 (fun c37 => ?_) (fun c37 => ?_)
        · have h38 := h35 c37
          refine ev_iinc (j := 2) dX12_isEnd_41 rfl (by decide) rfl ?_
          refine ev_goto 2 dX12_isEnd_44 (by decide) ?_
          exact ev_sub [1, 2, 0] rfl h38
        · have h39 := h36 c37
          refine ev_iconst dX12_isEnd_39 ?_
          exact ev_zret dX12_isEnd_40 (by decide) rfl (by decide) h39
def eX12_isInside (G : GT) (K : List Value → Mem → Prop) (X : String → Mem → Prop) (pc : Nat) (lv : List (Nat × Value)) (st : List Value) (M : Mem) : Prop := Ex G zX12_isInside 2 0 K X 0 pc lv st M
set_option maxRecDepth 20000 in
set_option maxHeartbeats 4000000 in
theorem bX12_isInside {G : GT} {K : List Value → Mem → Prop} {X : String → Mem → Prop} {M : Mem} {v1 v2 : Int} (h : Call G 1 0 zX12_isOnWay [rr G 8 0 0, iv v1, iv v2] M (kI (fun x3 M1 => I32 x3 ∧ ((x3 = 0 → K [iv 0] M1) ∧ (¬ x3 = 0 → Call G 0 0 zX12_first [rr G 8 0 0, iv v1] M1 (kI (fun x13 M11 => I32 v2 ∧ I32 x13 ∧ ((v2 = x13 → K [iv 0] M11) ∧ (¬ v2 = x13 → Call G 0 0 zX12_last [rr G 8 0 0, iv v1] M11 (kI (fun x24 M22 => I32 x24 ∧ ((v2 = x24 → K [iv 0] M22) ∧ (¬ v2 = x24 → 0 ≤ 22 + v2 ∧ 22 + v2 < 500 ∧ I32 (M22 8 0 1 (22 + v2)) ∧ ((¬ (M22 8 0 1 (22 + v2)) = 1 → K [iv 0] M22) ∧ ((M22 8 0 1 (22 + v2)) = 1 → K [iv 1] M22)))))) noX)))) noX)))) noX) : Call G 2 0 zX12_isInside [rr G 8 0 0, iv v1, iv v2] M K X := by
  refine call_intro (lv := [(0, rr G 8 0 0), (1, iv v1), (2, iv v2)]) (by decide) rfl (Nat.le_of_ble_eq_true rfl) rfl ?_
  refine ev_aload_n (j := 0) dX12_isInside_0 rfl rfl ?_
  refine ev_iload_n (j := 1) dX12_isInside_1 rfl rfl ?_
  refine ev_iload_n (j := 2) dX12_isInside_2 rfl rfl ?_
  refine ev_callVI (As := [iv v1, iv v2]) (st := []) mfX12_isOnWay mlX12_182 dX12_isInside_3 rfl dm8_0 en8_0 rfl rfl rfl (by decide) (by decide) (by decide) (Nat.le_of_ble_eq_true rfl) (fun _ _ z => z.elim) h (fun x3 M1 h2 => ?_)
  obtain ⟨s4, h5⟩ := h2
  obtain ⟨h6, h7⟩ := h5
  refine ev_if_eq 44 dX12_isInside_6 (by decide) s4 (fun c8 => ?_) (fun c8 => ?_)
  · have h9 := h6 c8
    refine ev_iconst dX12_isInside_44 ?_
    exact ev_zret dX12_isInside_45 (by decide) rfl (by decide) h9
  · have h10 := h7 c8
    refine ev_iload_n (j := 2) dX12_isInside_9 rfl rfl ?_
    refine ev_aload_n (j := 0) dX12_isInside_10 rfl rfl ?_
    refine ev_iload_n (j := 1) dX12_isInside_11 rfl rfl ?_
    refine ev_callVI (As := [iv v1]) (st := [iv v2]) mfX12_first mlX12_113 dX12_isInside_12 rfl dm8_0 en8_0 rfl rfl rfl (by decide) (by decide) (by decide) (Nat.le_of_ble_eq_true rfl) (fun _ _ z => z.elim) h10 (fun x13 M11 h12 => ?_)
    obtain ⟨s14, s15, h16⟩ := h12
    obtain ⟨h17, h18⟩ := h16
    refine ev_icmp_eq 44 dX12_isInside_15 (by decide) s14 s15 (fun c19 => ?_) (fun c19 => ?_)
    · have h20 := h17 c19
      refine ev_iconst dX12_isInside_44 ?_
      exact ev_zret dX12_isInside_45 (by decide) rfl (by decide) h20
    · have h21 := h18 c19
      refine ev_iload_n (j := 2) dX12_isInside_18 rfl rfl ?_
      refine ev_aload_n (j := 0) dX12_isInside_19 rfl rfl ?_
      refine ev_iload_n (j := 1) dX12_isInside_20 rfl rfl ?_
      refine ev_callVI (As := [iv v1]) (st := [iv v2]) mfX12_last mlX12_116 dX12_isInside_21 rfl dm8_0 en8_0 rfl rfl rfl (by decide) (by decide) (by decide) (Nat.le_of_ble_eq_true rfl) (fun _ _ z => z.elim) h21 (fun x24 M22 h23 => ?_)
      obtain ⟨s25, h26⟩ := h23
      obtain ⟨h27, h28⟩ := h26
      refine ev_icmp_eq 44 dX12_isInside_24 (by decide) s14 s25 (fun c29 => ?_) (fun c29 => ?_)
      · have h30 := h27 c29
        refine ev_iconst dX12_isInside_44 ?_
        exact ev_zret dX12_isInside_45 (by decide) rfl (by decide) h30
      · have h31 := h28 c29
        refine ev_aload_n (j := 0) dX12_isInside_27 rfl rfl ?_
        refine ev_get frX12_7 dX12_isInside_28 dm8_0 en8_0 rfl ?_
        refine ev_bipush dX12_isInside_31 (by decide) ?_
        refine ev_iload_n (j := 2) dX12_isInside_33 rfl rfl ?_
        refine ev_iadd dX12_isInside_34 ?_
        obtain ⟨s32, s33, h34⟩ := h31
        refine ev_iald dX12_isInside_35 dm8_1 ar8_1 (by decide) s32 s33 ?_
        refine ev_iconst dX12_isInside_36 ?_
        obtain ⟨s35, h36⟩ := h34
        obtain ⟨h37, h38⟩ := h36
        refine ev_icmp_ne 44 dX12_isInside_37 (by decide) s35 ⟨by decide, by decide⟩ (fun c39 => ?_) (fun c39 => ?_)
        · have h40 := h37 c39
          refine ev_iconst dX12_isInside_44 ?_
          exact ev_zret dX12_isInside_45 (by decide) rfl (by decide) h40
        · have h41 := h38 c39
          refine ev_iconst dX12_isInside_40 ?_
          refine ev_goto 45 dX12_isInside_41 (by decide) ?_
          exact ev_zret dX12_isInside_45 (by decide) rfl (by decide) h41
def eX12_isOnWay (G : GT) (K : List Value → Mem → Prop) (X : String → Mem → Prop) (pc : Nat) (lv : List (Nat × Value)) (st : List Value) (M : Mem) : Prop := Ex G zX12_isOnWay 1 0 K X 0 pc lv st M
set_option maxRecDepth 20000 in
set_option maxHeartbeats 4000000 in
theorem bX12_isOnWay {G : GT} {K : List Value → Mem → Prop} {X : String → Mem → Prop} {M : Mem} {v1 v2 : Int} (h : Call G 0 0 zX12_first [rr G 8 0 0, iv v1] M (kI (fun x3 M1 => Call G 0 0 zX12_last [rr G 8 0 0, iv v1] M1 (kI (fun x6 M4 => I32 x3 ∧ I32 x6 ∧ ((¬ x3 < x6 → Call G 0 0 zX12_last [rr G 8 0 0, iv v1] M4 (kI (fun x16 M14 => Call G 0 0 zX12_first [rr G 8 0 0, iv v1] M14 (kI (fun x19 M17 => Call G 0 0 zX12_in [iv v2, iv x16, iv x19] M17 (kI (fun x22 M20 => (x22 = 0 ∨ x22 = 1) ∧ K [iv x22] M20)) noX)) noX)) noX) ∧ (x3 < x6 → Call G 0 0 zX12_first [rr G 8 0 0, iv v1] M4 (kI (fun x28 M26 => Call G 0 0 zX12_last [rr G 8 0 0, iv v1] M26 (kI (fun x31 M29 => Call G 0 0 zX12_in [iv v2, iv x28, iv x31] M29 (kI (fun x34 M32 => (x34 = 0 ∨ x34 = 1) ∧ K [iv x34] M32)) noX)) noX)) noX)))) noX)) noX) : Call G 1 0 zX12_isOnWay [rr G 8 0 0, iv v1, iv v2] M K X := by
  refine call_intro (lv := [(0, rr G 8 0 0), (1, iv v1), (2, iv v2)]) (by decide) rfl (Nat.le_of_ble_eq_true rfl) rfl ?_
  refine ev_aload_n (j := 0) dX12_isOnWay_0 rfl rfl ?_
  refine ev_iload_n (j := 1) dX12_isOnWay_1 rfl rfl ?_
  refine ev_callVI (As := [iv v1]) (st := []) mfX12_first mlX12_113 dX12_isOnWay_2 rfl dm8_0 en8_0 rfl rfl rfl (by decide) (by decide) (by decide) (Nat.le_of_ble_eq_true rfl) (fun _ _ z => z.elim) h (fun x3 M1 h2 => ?_)
  refine ev_aload_n (j := 0) dX12_isOnWay_5 rfl rfl ?_
  refine ev_iload_n (j := 1) dX12_isOnWay_6 rfl rfl ?_
  refine ev_callVI (As := [iv v1]) (st := [iv x3]) mfX12_last mlX12_116 dX12_isOnWay_7 rfl dm8_0 en8_0 rfl rfl rfl (by decide) (by decide) (by decide) (Nat.le_of_ble_eq_true rfl) (fun _ _ z => z.elim) h2 (fun x6 M4 h5 => ?_)
  obtain ⟨s7, s8, h9⟩ := h5
  obtain ⟨h10, h11⟩ := h9
  refine ev_icmp_ge 30 dX12_isOnWay_10 (by decide) s7 s8 (fun c12 => ?_) (fun c12 => ?_)
  · have h13 := h10 c12
    refine ev_iload_n (j := 2) dX12_isOnWay_30 rfl rfl ?_
    refine ev_aload_n (j := 0) dX12_isOnWay_31 rfl rfl ?_
    refine ev_iload_n (j := 1) dX12_isOnWay_32 rfl rfl ?_
    refine ev_callVI (As := [iv v1]) (st := [iv v2]) mfX12_last mlX12_116 dX12_isOnWay_33 rfl dm8_0 en8_0 rfl rfl rfl (by decide) (by decide) (by decide) (Nat.le_of_ble_eq_true rfl) (fun _ _ z => z.elim) h13 (fun x16 M14 h15 => ?_)
    refine ev_aload_n (j := 0) dX12_isOnWay_36 rfl rfl ?_
    refine ev_iload_n (j := 1) dX12_isOnWay_37 rfl rfl ?_
    refine ev_callVI (As := [iv v1]) (st := [iv x16, iv v2]) mfX12_first mlX12_113 dX12_isOnWay_38 rfl dm8_0 en8_0 rfl rfl rfl (by decide) (by decide) (by decide) (Nat.le_of_ble_eq_true rfl) (fun _ _ z => z.elim) h15 (fun x19 M17 h18 => ?_)
    refine ev_callSI (As := [iv v2, iv x16, iv x19]) (st := []) mfX12_in mlX12_87 dX12_isOnWay_41 rfl rfl (by decide) (by decide) (by decide) (Nat.le_of_ble_eq_true rfl) (fun _ _ z => z.elim) h18 (fun x22 M20 h21 => ?_)
    obtain ⟨s23, h24⟩ := h21
    exact ev_zret dX12_isOnWay_44 (by decide) rfl s23 h24
  · have h25 := h11 c12
    refine ev_iload_n (j := 2) dX12_isOnWay_13 rfl rfl ?_
    refine ev_aload_n (j := 0) dX12_isOnWay_14 rfl rfl ?_
    refine ev_iload_n (j := 1) dX12_isOnWay_15 rfl rfl ?_
    refine ev_callVI (As := [iv v1]) (st := [iv v2]) mfX12_first mlX12_113 dX12_isOnWay_16 rfl dm8_0 en8_0 rfl rfl rfl (by decide) (by decide) (by decide) (Nat.le_of_ble_eq_true rfl) (fun _ _ z => z.elim) h25 (fun x28 M26 h27 => ?_)
    refine ev_aload_n (j := 0) dX12_isOnWay_19 rfl rfl ?_
    refine ev_iload_n (j := 1) dX12_isOnWay_20 rfl rfl ?_
    refine ev_callVI (As := [iv v1]) (st := [iv x28, iv v2]) mfX12_last mlX12_116 dX12_isOnWay_21 rfl dm8_0 en8_0 rfl rfl rfl (by decide) (by decide) (by decide) (Nat.le_of_ble_eq_true rfl) (fun _ _ z => z.elim) h27 (fun x31 M29 h30 => ?_)
    refine ev_callSI (As := [iv v2, iv x28, iv x31]) (st := []) mfX12_in mlX12_87 dX12_isOnWay_24 rfl rfl (by decide) (by decide) (by decide) (Nat.le_of_ble_eq_true rfl) (fun _ _ z => z.elim) h30 (fun x34 M32 h33 => ?_)
    refine ev_goto 44 dX12_isOnWay_27 (by decide) ?_
    obtain ⟨s35, h36⟩ := h33
    exact ev_zret dX12_isOnWay_44 (by decide) rfl s35 h36
def eX12_isSection (G : GT) (K : List Value → Mem → Prop) (X : String → Mem → Prop) (pc : Nat) (lv : List (Nat × Value)) (st : List Value) (M : Mem) : Prop := Ex G zX12_isSection 1 0 K X 0 pc lv st M
set_option maxRecDepth 20000 in
set_option maxHeartbeats 4000000 in
theorem bX12_isSection {G : GT} {K : List Value → Mem → Prop} {X : String → Mem → Prop} {M : Mem} {v0 : Int} (h : Call G 0 0 zX12_in [iv v0, iv 0, iv 10] M (kI (fun x3 M1 => (x3 = 0 ∨ x3 = 1) ∧ K [iv x3] M1)) noX) : Call G 1 0 zX12_isSection [iv v0] M K X := by
  refine call_intro (lv := [(0, iv v0)]) (by decide) rfl (Nat.le_of_ble_eq_true rfl) rfl ?_
  refine ev_iload_n (j := 0) dX12_isSection_0 rfl rfl ?_
  refine ev_iconst dX12_isSection_1 ?_
  refine ev_bipush dX12_isSection_2 (by decide) ?_
  refine ev_callSI (As := [iv v0, iv 0, iv 10]) (st := []) mfX12_in mlX12_87 dX12_isSection_4 rfl rfl (by decide) (by decide) (by decide) (Nat.le_of_ble_eq_true rfl) (fun _ _ z => z.elim) h (fun x3 M1 h2 => ?_)
  obtain ⟨s4, h5⟩ := h2
  exact ev_zret dX12_isSection_7 (by decide) rfl s4 h5
def eX12_isSound (G : GT) (K : List Value → Mem → Prop) (X : String → Mem → Prop) (pc : Nat) (lv : List (Nat × Value)) (st : List Value) (M : Mem) : Prop := Ex G zX12_isSound 3 0 K X 0 pc lv st M
set_option maxRecDepth 20000 in
set_option maxHeartbeats 4000000 in
theorem bX12_isSound {G : GT} {K : List Value → Mem → Prop} {X : String → Mem → Prop} {M : Mem} {v1 : Int} (h : eX12_isSound G K X 2 [(0, rr G 8 0 0), (1, iv v1), (2, iv 0)] [] M) : Call G 3 0 zX12_isSound [rr G 8 0 0, iv v1] M K X := by
  refine call_intro (lv := [(0, rr G 8 0 0), (1, iv v1)]) (by decide) rfl (Nat.le_of_ble_eq_true rfl) rfl ?_
  refine ev_iconst dX12_isSound_0 ?_
  refine ev_istore_n dX12_isSound_1 rfl (by decide) rfl ?_
  exact ev_sub [1, 2, 0] rfl h
set_option maxRecDepth 20000 in
set_option maxHeartbeats 4000000 in
theorem bX12_isSound_2 {G : GT} {K : List Value → Mem → Prop} {X : String → Mem → Prop} {M : Mem} {v1 v2 : Int} (h : 0 ≤ 171 + v1 ∧ 171 + v1 < 500 ∧ I32 v2 ∧ I32 (M 8 0 1 (171 + v1)) ∧ ((¬ v2 < (M 8 0 1 (171 + v1)) → K [iv 1] M) ∧ (v2 < (M 8 0 1 (171 + v1)) → ((¬ v2 = 0 → Call G 0 0 zX12_dutyAt [rr G 8 0 0, iv v1, iv (v2 - 1)] M (kI (fun x18 M16 => Call G 0 0 zX12_dutyAt [rr G 8 0 0, iv v1, iv v2] M16 (kI (fun x21 M19 => Call G 2 0 zX12_follows [rr G 8 0 0, iv x18, iv x21] M19 (kI (fun x24 M22 => I32 x24 ∧ ((¬ x24 = 0 → eX12_isSound G K X 2 [(0, rr G 8 0 0), (1, iv v1), (2, iv (v2 + 1))] [] M22) ∧ (x24 = 0 → K [iv 0] M22)))) noX)) noX)) noX) ∧ (v2 = 0 → Call G 0 0 zX12_dutyAt [rr G 8 0 0, iv v1, iv 0] M (kI (fun x35 M33 => Call G 0 0 zX12_first [rr G 8 0 0, iv x35] M33 (kI (fun x38 M36 => Call G 0 0 zX12_homeStop [rr G 8 0 0, iv v1] M36 (kI (fun x41 M39 => I32 x38 ∧ I32 x41 ∧ ((x38 = x41 → eX12_isSound G K X 2 [(0, rr G 8 0 0), (1, iv v1), (2, iv (v2 + 1))] [] M39) ∧ (¬ x38 = x41 → K [iv 0] M39)))) noX)) noX)) noX))))) : eX12_isSound G K X 2 [(0, rr G 8 0 0), (1, iv v1), (2, iv v2)] [] M := by
  show Ex G zX12_isSound 3 0 K X 0 2 [(0, rr G 8 0 0), (1, iv v1), (2, iv v2)] [] M
  refine ev_iload_n (j := 2) dX12_isSound_2 rfl rfl ?_
  refine ev_aload_n (j := 0) dX12_isSound_3 rfl rfl ?_
  refine ev_get frX12_7 dX12_isSound_4 dm8_0 en8_0 rfl ?_
  refine ev_sipush dX12_isSound_7 (by decide) ?_
  refine ev_iload_n (j := 1) dX12_isSound_10 rfl rfl ?_
  refine ev_iadd dX12_isSound_11 ?_
  obtain ⟨s1, s2, h3⟩ := h
  refine ev_iald dX12_isSound_12 dm8_1 ar8_1 (by decide) s1 s2 ?_
  obtain ⟨s4, s5, h6⟩ := h3
  obtain ⟨h7, h8⟩ := h6
  refine ev_icmp_ge 70 dX12_isSound_13 (by decide) s4 s5 (fun c9 => ?_) (fun c9 => ?_)
  · have h10 := h7 c9
    refine ev_iconst dX12_isSound_70 ?_
    exact ev_zret dX12_isSound_71 (by decide) rfl (by decide) h10
  · have h11 := h8 c9
    refine ev_iload_n (j := 2) dX12_isSound_16 rfl rfl ?_
    obtain ⟨h12, h13⟩ := h11
    refine ev_if_ne 41 dX12_isSound_17 (by decide) s4 (fun c14 => ?_) (fun c14 => ?_)
    · have h15 := h12 c14
      refine ev_aload_n (j := 0) dX12_isSound_41 rfl rfl ?_
      refine ev_aload_n (j := 0) dX12_isSound_42 rfl rfl ?_
      refine ev_iload_n (j := 1) dX12_isSound_43 rfl rfl ?_
      refine ev_iload_n (j := 2) dX12_isSound_44 rfl rfl ?_
      refine ev_iconst dX12_isSound_45 ?_
      refine ev_isub dX12_isSound_46 ?_
      refine ev_callVI (As := [iv v1, iv (v2 - 1)]) (st := [rr G 8 0 0]) mfX12_dutyAt mlX12_126 dX12_isSound_47 rfl dm8_0 en8_0 rfl rfl rfl (by decide) (by decide) (by decide) (Nat.le_of_ble_eq_true rfl) (fun _ _ z => z.elim) h15 (fun x18 M16 h17 => ?_)
      refine ev_aload_n (j := 0) dX12_isSound_50 rfl rfl ?_
      refine ev_iload_n (j := 1) dX12_isSound_51 rfl rfl ?_
      refine ev_iload_n (j := 2) dX12_isSound_52 rfl rfl ?_
      refine ev_callVI (As := [iv v1, iv v2]) (st := [iv x18, rr G 8 0 0]) mfX12_dutyAt mlX12_126 dX12_isSound_53 rfl dm8_0 en8_0 rfl rfl rfl (by decide) (by decide) (by decide) (Nat.le_of_ble_eq_true rfl) (fun _ _ z => z.elim) h17 (fun x21 M19 h20 => ?_)
      refine ev_callVI (As := [iv x18, iv x21]) (st := []) mfX12_follows mlX12_132 dX12_isSound_56 rfl dm8_0 en8_0 rfl rfl rfl (by decide) (by decide) (by decide) (Nat.le_of_ble_eq_true rfl) (fun _ _ z => z.elim) h20 (fun x24 M22 h23 => ?_)
      obtain ⟨s25, h26⟩ := h23
      obtain ⟨h27, h28⟩ := h26
      refine ev_if_ne 64 dX12_isSound_59 (by decide) s25 (fun c29 => ?_) (fun c29 => ?_)
      · have h30 := h27 c29
        refine ev_iinc (j := 2) dX12_isSound_64 rfl (by decide) rfl ?_
        refine ev_goto 2 dX12_isSound_67 (by decide) ?_
        exact ev_sub [1, 2, 0] rfl h30
      · have h31 := h28 c29
        refine ev_iconst dX12_isSound_62 ?_
        exact ev_zret dX12_isSound_63 (by decide) rfl (by decide) h31
    · have h32 := h13 c14
      refine ev_aload_n (j := 0) dX12_isSound_20 rfl rfl ?_
      refine ev_aload_n (j := 0) dX12_isSound_21 rfl rfl ?_
      refine ev_iload_n (j := 1) dX12_isSound_22 rfl rfl ?_
      refine ev_iconst dX12_isSound_23 ?_
      refine ev_callVI (As := [iv v1, iv 0]) (st := [rr G 8 0 0]) mfX12_dutyAt mlX12_126 dX12_isSound_24 rfl dm8_0 en8_0 rfl rfl rfl (by decide) (by decide) (by decide) (Nat.le_of_ble_eq_true rfl) (fun _ _ z => z.elim) h32 (fun x35 M33 h34 => ?_)
      refine ev_callVI (As := [iv x35]) (st := []) mfX12_first mlX12_113 dX12_isSound_27 rfl dm8_0 en8_0 rfl rfl rfl (by decide) (by decide) (by decide) (Nat.le_of_ble_eq_true rfl) (fun _ _ z => z.elim) h34 (fun x38 M36 h37 => ?_)
      refine ev_aload_n (j := 0) dX12_isSound_30 rfl rfl ?_
      refine ev_iload_n (j := 1) dX12_isSound_31 rfl rfl ?_
      refine ev_callVI (As := [iv v1]) (st := [iv x38]) mfX12_homeStop mlX12_129 dX12_isSound_32 rfl dm8_0 en8_0 rfl rfl rfl (by decide) (by decide) (by decide) (Nat.le_of_ble_eq_true rfl) (fun _ _ z => z.elim) h37 (fun x41 M39 h40 => ?_)
      obtain ⟨s42, s43, h44⟩ := h40
      obtain ⟨h45, h46⟩ := h44
      refine ev_icmp_eq 64 dX12_isSound_35 (by decide) s42 s43 (fun c47 => ?_) (fun c47 => ?_)
      · have h48 := h45 c47
        refine ev_iinc (j := 2) dX12_isSound_64 rfl (by decide) rfl ?_
        refine ev_goto 2 dX12_isSound_67 (by decide) ?_
        exact ev_sub [1, 2, 0] rfl h48
      · have h49 := h46 c47
        refine ev_goto 62 dX12_isSound_38 (by decide) ?_
        refine ev_iconst dX12_isSound_62 ?_
        exact ev_zret dX12_isSound_63 (by decide) rfl (by decide) h49
def eX12_isStop (G : GT) (K : List Value → Mem → Prop) (X : String → Mem → Prop) (pc : Nat) (lv : List (Nat × Value)) (st : List Value) (M : Mem) : Prop := Ex G zX12_isStop 1 0 K X 0 pc lv st M
set_option maxRecDepth 20000 in
set_option maxHeartbeats 4000000 in
theorem bX12_isStop {G : GT} {K : List Value → Mem → Prop} {X : String → Mem → Prop} {M : Mem} {v0 : Int} (h : Call G 0 0 zX12_in [iv v0, iv 0, iv 11] M (kI (fun x3 M1 => (x3 = 0 ∨ x3 = 1) ∧ K [iv x3] M1)) noX) : Call G 1 0 zX12_isStop [iv v0] M K X := by
  refine call_intro (lv := [(0, iv v0)]) (by decide) rfl (Nat.le_of_ble_eq_true rfl) rfl ?_
  refine ev_iload_n (j := 0) dX12_isStop_0 rfl rfl ?_
  refine ev_iconst dX12_isStop_1 ?_
  refine ev_bipush dX12_isStop_2 (by decide) ?_
  refine ev_callSI (As := [iv v0, iv 0, iv 11]) (st := []) mfX12_in mlX12_87 dX12_isStop_4 rfl rfl (by decide) (by decide) (by decide) (Nat.le_of_ble_eq_true rfl) (fun _ _ z => z.elim) h (fun x3 M1 h2 => ?_)
  obtain ⟨s4, h5⟩ := h2
  exact ev_zret dX12_isStop_7 (by decide) rfl s4 h5
def eX12_isText (G : GT) (K : List Value → Mem → Prop) (X : String → Mem → Prop) (pc : Nat) (lv : List (Nat × Value)) (st : List Value) (M : Mem) : Prop := Ex G zX12_isText 3 0 K X 0 pc lv st M
set_option maxRecDepth 20000 in
set_option maxHeartbeats 4000000 in
theorem bX12_isText {G : GT} {K : List Value → Mem → Prop} {X : String → Mem → Prop} {M : Mem} (h : eX12_isText G K X 10 [(0, rr G 8 0 0)] [] (wr (wr M 8 0 0 34 0) 8 0 0 38 0)) : Call G 3 0 zX12_isText [rr G 8 0 0] M K X := by
  refine call_intro (lv := [(0, rr G 8 0 0)]) (by decide) rfl (Nat.le_of_ble_eq_true rfl) rfl ?_
  refine ev_aload_n (j := 0) dX12_isText_0 rfl rfl ?_
  refine ev_iconst dX12_isText_1 ?_
  refine ev_put fwX12_332 dX12_isText_2 dm8_0 en8_0 rfl rfl rfl (Nat.le_of_ble_eq_true rfl) ?_
  refine ev_aload_n (j := 0) dX12_isText_5 rfl rfl ?_
  refine ev_iconst dX12_isText_6 ?_
  refine ev_put fwX12_343 dX12_isText_7 dm8_0 en8_0 rfl rfl rfl (Nat.le_of_ble_eq_true rfl) ?_
  exact ev_sub [0] rfl h
set_option maxRecDepth 20000 in
set_option maxHeartbeats 4000000 in
theorem bX12_isText_10 {G : GT} {K : List Value → Mem → Prop} {X : String → Mem → Prop} {M : Mem} (h : Call G 2 0 zX12_tripHere [rr G 8 0 0] M (kI (fun x3 M1 => I32 x3 ∧ ((¬ x3 = 0 → I32 (M1 8 0 0 34) ∧ I32 (M1 8 0 0 33) ∧ (((M1 8 0 0 34) < (M1 8 0 0 33) → eX12_isText G K X 10 [(0, rr G 8 0 0)] [] M1) ∧ (¬ (M1 8 0 0 34) < (M1 8 0 0 33) → K [iv 1] M1))) ∧ (x3 = 0 → K [iv 0] M1)))) noX) : eX12_isText G K X 10 [(0, rr G 8 0 0)] [] M := by
  show Ex G zX12_isText 3 0 K X 0 10 [(0, rr G 8 0 0)] [] M
  refine ev_aload_n (j := 0) dX12_isText_10 rfl rfl ?_
  refine ev_callVI (As := []) (st := []) mfX12_tripHere mlX12_349 dX12_isText_11 rfl dm8_0 en8_0 rfl rfl rfl (by decide) (by decide) (by decide) (Nat.le_of_ble_eq_true rfl) (fun _ _ z => z.elim) h (fun x3 M1 h2 => ?_)
  obtain ⟨s4, h5⟩ := h2
  obtain ⟨h6, h7⟩ := h5
  refine ev_if_ne 19 dX12_isText_14 (by decide) s4 (fun c8 => ?_) (fun c8 => ?_)
  · have h9 := h6 c8
    refine ev_aload_n (j := 0) dX12_isText_19 rfl rfl ?_
    refine ev_get frX12_332 dX12_isText_20 dm8_0 en8_0 rfl ?_
    refine ev_aload_n (j := 0) dX12_isText_23 rfl rfl ?_
    refine ev_get frX12_329 dX12_isText_24 dm8_0 en8_0 rfl ?_
    obtain ⟨s10, s11, h12⟩ := h9
    obtain ⟨h13, h14⟩ := h12
    refine ev_icmp_lt 10 dX12_isText_27 (by decide) s10 s11 (fun c15 => ?_) (fun c15 => ?_)
    · have h16 := h13 c15
      exact ev_sub [0] rfl h16
    · have h17 := h14 c15
      refine ev_iconst dX12_isText_30 ?_
      exact ev_zret dX12_isText_31 (by decide) rfl (by decide) h17
  · have h18 := h7 c8
    refine ev_iconst dX12_isText_17 ?_
    exact ev_zret dX12_isText_18 (by decide) rfl (by decide) h18
def eX12_isTrip (G : GT) (K : List Value → Mem → Prop) (X : String → Mem → Prop) (pc : Nat) (lv : List (Nat × Value)) (st : List Value) (M : Mem) : Prop := Ex G zX12_isTrip 1 0 K X 0 pc lv st M
set_option maxRecDepth 20000 in
set_option maxHeartbeats 4000000 in
theorem bX12_isTrip {G : GT} {K : List Value → Mem → Prop} {X : String → Mem → Prop} {M : Mem} {v1 : Int} (h : Call G 0 0 zX12_in [iv v1, iv 0, iv ((M 8 0 1 37) - 1)] M (kI (fun x3 M1 => (x3 = 0 ∨ x3 = 1) ∧ K [iv x3] M1)) noX) : Call G 1 0 zX12_isTrip [rr G 8 0 0, iv v1] M K X := by
  refine call_intro (lv := [(0, rr G 8 0 0), (1, iv v1)]) (by decide) rfl (Nat.le_of_ble_eq_true rfl) rfl ?_
  refine ev_iload_n (j := 1) dX12_isTrip_0 rfl rfl ?_
  refine ev_iconst dX12_isTrip_1 ?_
  refine ev_aload_n (j := 0) dX12_isTrip_2 rfl rfl ?_
  refine ev_get frX12_7 dX12_isTrip_3 dm8_0 en8_0 rfl ?_
  refine ev_bipush dX12_isTrip_6 (by decide) ?_
  refine ev_iald dX12_isTrip_8 dm8_1 ar8_1 (by decide) (by decide) (by decide) ?_
  refine ev_iconst dX12_isTrip_9 ?_
  refine ev_isub dX12_isTrip_10 ?_
  refine ev_callSI (As := [iv v1, iv 0, iv ((M 8 0 1 37) - 1)]) (st := []) mfX12_in mlX12_87 dX12_isTrip_11 rfl rfl (by decide) (by decide) (by decide) (Nat.le_of_ble_eq_true rfl) (fun _ _ z => z.elim) h (fun x3 M1 h2 => ?_)
  obtain ⟨s4, h5⟩ := h2
  exact ev_zret dX12_isTrip_14 (by decide) rfl s4 h5
def eX12_isVehicle (G : GT) (K : List Value → Mem → Prop) (X : String → Mem → Prop) (pc : Nat) (lv : List (Nat × Value)) (st : List Value) (M : Mem) : Prop := Ex G zX12_isVehicle 1 0 K X 0 pc lv st M
set_option maxRecDepth 20000 in
set_option maxHeartbeats 4000000 in
theorem bX12_isVehicle {G : GT} {K : List Value → Mem → Prop} {X : String → Mem → Prop} {M : Mem} {v1 : Int} (h : Call G 0 0 zX12_in [iv v1, iv 0, iv ((M 8 0 1 160) - 1)] M (kI (fun x3 M1 => (x3 = 0 ∨ x3 = 1) ∧ K [iv x3] M1)) noX) : Call G 1 0 zX12_isVehicle [rr G 8 0 0, iv v1] M K X := by
  refine call_intro (lv := [(0, rr G 8 0 0), (1, iv v1)]) (by decide) rfl (Nat.le_of_ble_eq_true rfl) rfl ?_
  refine ev_iload_n (j := 1) dX12_isVehicle_0 rfl rfl ?_
  refine ev_iconst dX12_isVehicle_1 ?_
  refine ev_aload_n (j := 0) dX12_isVehicle_2 rfl rfl ?_
  refine ev_get frX12_7 dX12_isVehicle_3 dm8_0 en8_0 rfl ?_
  refine ev_sipush dX12_isVehicle_6 (by decide) ?_
  refine ev_iald dX12_isVehicle_9 dm8_1 ar8_1 (by decide) (by decide) (by decide) ?_
  refine ev_iconst dX12_isVehicle_10 ?_
  refine ev_isub dX12_isVehicle_11 ?_
  refine ev_callSI (As := [iv v1, iv 0, iv ((M 8 0 1 160) - 1)]) (st := []) mfX12_in mlX12_87 dX12_isVehicle_12 rfl rfl (by decide) (by decide) (by decide) (Nat.le_of_ble_eq_true rfl) (fun _ _ z => z.elim) h (fun x3 M1 h2 => ?_)
  obtain ⟨s4, h5⟩ := h2
  exact ev_zret dX12_isVehicle_15 (by decide) rfl s4 h5
def eX12_last (G : GT) (K : List Value → Mem → Prop) (X : String → Mem → Prop) (pc : Nat) (lv : List (Nat × Value)) (st : List Value) (M : Mem) : Prop := Ex G zX12_last 0 0 K X 0 pc lv st M
set_option maxRecDepth 20000 in
set_option maxHeartbeats 4000000 in
theorem bX12_last {G : GT} {K : List Value → Mem → Prop} {X : String → Mem → Prop} {M : Mem} {v1 : Int} (h : 0 ≤ (40 + (4 * v1)) + 1 ∧ (40 + (4 * v1)) + 1 < 500 ∧ K [iv (M 8 0 1 ((40 + (4 * v1)) + 1))] M) : Call G 0 0 zX12_last [rr G 8 0 0, iv v1] M K X := by
  refine call_intro (lv := [(0, rr G 8 0 0), (1, iv v1)]) (by decide) rfl (Nat.le_of_ble_eq_true rfl) rfl ?_
  refine ev_aload_n (j := 0) dX12_last_0 rfl rfl ?_
  refine ev_get frX12_7 dX12_last_1 dm8_0 en8_0 rfl ?_
  refine ev_bipush dX12_last_4 (by decide) ?_
  refine ev_iconst dX12_last_6 ?_
  refine ev_iload_n (j := 1) dX12_last_7 rfl rfl ?_
  refine ev_imul dX12_last_8 ?_
  refine ev_iadd dX12_last_9 ?_
  refine ev_iconst dX12_last_10 ?_
  refine ev_iadd dX12_last_11 ?_
  obtain ⟨s1, s2, h3⟩ := h
  refine ev_iald dX12_last_12 dm8_1 ar8_1 (by decide) s1 s2 ?_
  exact ev_iret dX12_last_13 (by decide) rfl h3
def eX12_leastCost (G : GT) (K : List Value → Mem → Prop) (X : String → Mem → Prop) (pc : Nat) (lv : List (Nat × Value)) (st : List Value) (M : Mem) : Prop := Ex G zX12_leastCost 5 0 K X 0 pc lv st M
set_option maxRecDepth 20000 in
set_option maxHeartbeats 4000000 in
theorem bX12_leastCost {G : GT} {K : List Value → Mem → Prop} {X : String → Mem → Prop} {M : Mem} {v1 : Int} (h : Call G 0 0 zX12_in [iv v1, iv 0, iv 1000] M (kI (fun x3 M1 => I32 x3 ∧ ((x3 = 0 → K [iv 0] (wr M1 8 0 0 7 1)) ∧ (¬ x3 = 0 → eX12_leastCost G K X 31 [(0, rr G 8 0 0), (1, iv v1), (2, iv 0)] [] (wr M1 8 0 0 7 0))))) noX) : Call G 5 0 zX12_leastCost [rr G 8 0 0, iv v1] M K X := by
  refine call_intro (lv := [(0, rr G 8 0 0), (1, iv v1)]) (by decide) rfl (Nat.le_of_ble_eq_true rfl) rfl ?_
  refine ev_aload_n (j := 0) dX12_leastCost_0 rfl rfl ?_
  refine ev_iload_n (j := 1) dX12_leastCost_1 rfl rfl ?_
  refine ev_iconst dX12_leastCost_2 ?_
  refine ev_sipush dX12_leastCost_3 (by decide) ?_
  refine ev_callSI (As := [iv v1, iv 0, iv 1000]) (st := [rr G 8 0 0]) mfX12_in mlX12_87 dX12_leastCost_6 rfl rfl (by decide) (by decide) (by decide) (Nat.le_of_ble_eq_true rfl) (fun _ _ z => z.elim) h (fun x3 M1 h2 => ?_)
  obtain ⟨s4, h5⟩ := h2
  obtain ⟨h6, h7⟩ := h5
  refine ev_if_eq 16 dX12_leastCost_9 (by decide) s4 (fun c8 => ?_) (fun c8 => ?_)
  · have h9 := h6 c8
    refine ev_iconst dX12_leastCost_16 ?_
    refine ev_put fwX12_84 dX12_leastCost_17 dm8_0 en8_0 rfl rfl rfl (Nat.le_of_ble_eq_true rfl) ?_
    refine ev_aload_n (j := 0) dX12_leastCost_20 rfl rfl ?_
    refine ev_get frX12_84 dX12_leastCost_21 dm8_0 en8_0 rfl ?_
    refine ev_topI (b := 1) rfl ?_
    refine ev_if_le 29 dX12_leastCost_24 (by decide) ⟨by decide, by decide⟩ (fun c9 => absurd c9 (by decide)) (fun _ => ?_)
    refine ev_iconst dX12_leastCost_27 ?_
    exact ev_iret dX12_leastCost_28 (by decide) rfl h9
  · have h10 := h7 c8
    refine ev_iconst dX12_leastCost_12 ?_
    refine ev_goto 17 dX12_leastCost_13 (by decide) ?_
    refine ev_put fwX12_84 dX12_leastCost_17 dm8_0 en8_0 rfl rfl rfl (Nat.le_of_ble_eq_true rfl) ?_
    refine ev_aload_n (j := 0) dX12_leastCost_20 rfl rfl ?_
    refine ev_get frX12_84 dX12_leastCost_21 dm8_0 en8_0 rfl ?_
    refine ev_topI (b := 0) rfl ?_
    refine ev_if_le 29 dX12_leastCost_24 (by decide) ⟨by decide, by decide⟩ (fun _ => ?_) (fun c9 => absurd c9 (by decide))
    refine ev_iconst dX12_leastCost_29 ?_
    refine ev_istore_n dX12_leastCost_30 rfl (by decide) rfl ?_
    exact ev_sub [1, 2, 0] rfl h10
set_option maxRecDepth 20000 in
set_option maxHeartbeats 4000000 in
theorem bX12_leastCost_31 {G : GT} {K : List Value → Mem → Prop} {X : String → Mem → Prop} {M : Mem} {v1 v2 : Int} (h : I32 v2 ∧ I32 (M 8 0 1 37) ∧ ((¬ v2 < (M 8 0 1 37) → Call G 1 0 zX12_active [rr G 8 0 0] M (kI (fun x10 M8 => eX12_leastCost G K X 71 [(0, rr G 8 0 0), (1, iv v1), (2, iv (v1 * x10)), (3, iv 1)] [] M8)) noX) ∧ (v2 < (M 8 0 1 37) → 0 ≤ v2 ∧ v2 < 30 ∧ eX12_leastCost G K X 31 [(0, rr G 8 0 0), (1, iv v1), (2, iv (v2 + 1))] [] (wr (wr M 8 0 14 v2 (-1)) 8 0 18 v2 (-1))))) : eX12_leastCost G K X 31 [(0, rr G 8 0 0), (1, iv v1), (2, iv v2)] [] M := by
  show Ex G zX12_leastCost 5 0 K X 0 31 [(0, rr G 8 0 0), (1, iv v1), (2, iv v2)] [] M
  refine ev_iload_n (j := 2) dX12_leastCost_31 rfl rfl ?_
  refine ev_aload_n (j := 0) dX12_leastCost_32 rfl rfl ?_
  refine ev_get frX12_7 dX12_leastCost_33 dm8_0 en8_0 rfl ?_
  refine ev_bipush dX12_leastCost_36 (by decide) ?_
  refine ev_iald dX12_leastCost_38 dm8_1 ar8_1 (by decide) (by decide) (by decide) ?_
  obtain ⟨s1, s2, h3⟩ := h
  obtain ⟨h4, h5⟩ := h3
  refine ev_icmp_ge 62 dX12_leastCost_39 (by decide) s1 s2 (fun c6 => ?_) (fun c6 => ?_)
  · have h7 := h4 c6
    refine ev_iload_n (j := 1) dX12_leastCost_62 rfl rfl ?_
    refine ev_aload_n (j := 0) dX12_leastCost_63 rfl rfl ?_
    refine ev_callVI (As := []) (st := [iv v1]) mfX12_active mlX12_188 dX12_leastCost_64 rfl dm8_0 en8_0 rfl rfl rfl (by decide) (by decide) (by decide) (Nat.le_of_ble_eq_true rfl) (fun _ _ z => z.elim) h7 (fun x10 M8 h9 => ?_)
    refine ev_imul dX12_leastCost_67 ?_
    refine ev_istore_n dX12_leastCost_68 rfl (by decide) rfl ?_
    refine ev_iconst dX12_leastCost_69 ?_
    refine ev_istore_n dX12_leastCost_70 rfl (by decide) rfl ?_
    exact ev_sub [2, 3, 1, 0] rfl h9
  · have h11 := h5 c6
    refine ev_aload_n (j := 0) dX12_leastCost_42 rfl rfl ?_
    refine ev_get frX12_49 dX12_leastCost_43 dm8_0 en8_0 rfl ?_
    refine ev_iload_n (j := 2) dX12_leastCost_46 rfl rfl ?_
    refine ev_iconst dX12_leastCost_47 ?_
    obtain ⟨s12, s13, h14⟩ := h11
    refine ev_iast dX12_leastCost_48 dm8_14 ar8_14 (by decide) s12 s13 ?_
    refine ev_aload_n (j := 0) dX12_leastCost_49 rfl rfl ?_
    refine ev_get frX12_62 dX12_leastCost_50 dm8_0 en8_0 rfl ?_
    refine ev_iload_n (j := 2) dX12_leastCost_53 rfl rfl ?_
    refine ev_iconst dX12_leastCost_54 ?_
    refine ev_iast dX12_leastCost_55 dm8_18 ar8_18 (by decide) s12 s13 ?_
    refine ev_iinc (j := 2) dX12_leastCost_56 rfl (by decide) rfl ?_
    refine ev_goto 31 dX12_leastCost_59 (by decide) ?_
    exact ev_sub [1, 2, 0] rfl h14
set_option maxRecDepth 20000 in
set_option maxHeartbeats 4000000 in
theorem bX12_leastCost_71 {G : GT} {K : List Value → Mem → Prop} {X : String → Mem → Prop} {M : Mem} {v1 v2 v3 : Int} (h : I32 v3 ∧ ((v3 = 0 → K [iv v2] M) ∧ (¬ v3 = 0 → Call G 4 0 zX12_waysBy [rr G 8 0 0, iv v1] M (kV (fun M8 => eX12_leastCost G K X 86 [(0, rr G 8 0 0), (1, iv v1), (2, iv v2), (4, iv (-1)), (5, iv 0)] [] M8)) noX))) : eX12_leastCost G K X 71 [(0, rr G 8 0 0), (1, iv v1), (2, iv v2), (3, iv v3)] [] M := by
  show Ex G zX12_leastCost 5 0 K X 0 71 [(0, rr G 8 0 0), (1, iv v1), (2, iv v2), (3, iv v3)] [] M
  refine ev_iload_n (j := 3) dX12_leastCost_71 rfl rfl ?_
  obtain ⟨s1, h2⟩ := h
  obtain ⟨h3, h4⟩ := h2
  refine ev_if_eq 189 dX12_leastCost_72 (by decide) s1 (fun c5 => ?_) (fun c5 => ?_)
  · have h6 := h3 c5
    refine ev_iload_n (j := 2) dX12_leastCost_189 rfl rfl ?_
    exact ev_iret dX12_leastCost_190 (by decide) rfl h6
  · have h7 := h4 c5
    refine ev_aload_n (j := 0) dX12_leastCost_75 rfl rfl ?_
    refine ev_iload_n (j := 1) dX12_leastCost_76 rfl rfl ?_
    refine ev_callVV (As := [iv v1]) (st := []) mfX12_waysBy mlX12_317 dX12_leastCost_77 rfl dm8_0 en8_0 rfl rfl rfl (by decide) (by decide) (by decide) (Nat.le_of_ble_eq_true rfl) (fun _ _ z => z.elim) h7 (fun M8 h9 => ?_)
    refine ev_iconst dX12_leastCost_80 ?_
    refine ev_istore dX12_leastCost_81 (by decide) rfl ?_
    refine ev_iconst dX12_leastCost_83 ?_
    refine ev_istore dX12_leastCost_84 (by decide) rfl ?_
    exact ev_sub [2, 3, 4, 1, 0] rfl h9
set_option maxRecDepth 20000 in
set_option maxHeartbeats 4000000 in
theorem bX12_leastCost_86 {G : GT} {K : List Value → Mem → Prop} {X : String → Mem → Prop} {M : Mem} {v1 v2 v4 v5 : Int} (h : I32 v5 ∧ I32 (M 8 0 1 37) ∧ ((¬ v5 < (M 8 0 1 37) → I32 v4 ∧ ((v4 < 0 → eX12_leastCost G K X 71 [(0, rr G 8 0 0), (1, iv v1), (2, iv v2), (3, iv 0)] [] M) ∧ (¬ v4 < 0 → 0 ≤ v4 ∧ v4 < 30 ∧ Call G 0 0 zX12_turnsWay [rr G 8 0 0, iv v4] M (kV (fun M18 => eX12_leastCost G K X 71 [(0, rr G 8 0 0), (1, iv v1), (2, iv (v2 + (M 8 0 20 v4))), (3, iv 1)] [] M18)) noX))) ∧ (v5 < (M 8 0 1 37) → 0 ≤ v5 ∧ v5 < 30 ∧ I32 (M 8 0 14 v5) ∧ ((¬ (M 8 0 14 v5) < 0 → eX12_leastCost G K X 86 [(0, rr G 8 0 0), (1, iv v1), (2, iv v2), (4, iv v4), (5, iv (v5 + 1))] [] M) ∧ ((M 8 0 14 v5) < 0 → I32 (M 8 0 20 v5) ∧ ((¬ (M 8 0 20 v5) < 0 → eX12_leastCost G K X 86 [(0, rr G 8 0 0), (1, iv v1), (2, iv v2), (4, iv v4), (5, iv (v5 + 1))] [] M) ∧ ((M 8 0 20 v5) < 0 → I32 v4 ∧ ((v4 < 0 → eX12_leastCost G K X 86 [(0, rr G 8 0 0), (1, iv v1), (2, iv v2), (4, iv v5), (5, iv (v5 + 1))] [] M) ∧ (¬ v4 < 0 → 0 ≤ v4 ∧ v4 < 30 ∧ I32 (M 8 0 20 v4) ∧ ((¬ (M 8 0 20 v5) < (M 8 0 20 v4) → eX12_leastCost G K X 86 [(0, rr G 8 0 0), (1, iv v1), (2, iv v2), (4, iv v4), (5, iv (v5 + 1))] [] M) ∧ ((M 8 0 20 v5) < (M 8 0 20 v4) → eX12_leastCost G K X 86 [(0, rr G 8 0 0), (1, iv v1), (2, iv v2), (4, iv v5), (5, iv (v5 + 1))] [] M))))))))))) : eX12_leastCost G K X 86 [(0, rr G 8 0 0), (1, iv v1), (2, iv v2), (4, iv v4), (5, iv v5)] [] M := by
  show Ex G zX12_leastCost 5 0 K X 0 86 [(0, rr G 8 0 0), (1, iv v1), (2, iv v2), (4, iv v4), (5, iv v5)] [] M
  refine ev_iload (j := 4) dX12_leastCost_86 rfl ?_
  refine ev_aload_n (j := 0) dX12_leastCost_88 rfl rfl ?_
  refine ev_get frX12_7 dX12_leastCost_89 dm8_0 en8_0 rfl ?_
  refine ev_bipush dX12_leastCost_92 (by decide) ?_
  refine ev_iald dX12_leastCost_94 dm8_1 ar8_1 (by decide) (by decide) (by decide) ?_
  obtain ⟨s1, s2, h3⟩ := h
  obtain ⟨h4, h5⟩ := h3
  refine ev_icmp_ge 155 dX12_leastCost_95 (by decide) s1 s2 (fun c6 => ?_) (fun c6 => ?_)
  · have h7 := h4 c6
    refine ev_iload (j := 3) dX12_leastCost_155 rfl ?_
    obtain ⟨s8, h9⟩ := h7
    obtain ⟨h10, h11⟩ := h9
    refine ev_if_lt 164 dX12_leastCost_157 (by decide) s8 (fun c12 => ?_) (fun c12 => ?_)
    · have h13 := h10 c12
      refine ev_iconst dX12_leastCost_164 ?_
      refine ev_istore_n dX12_leastCost_165 rfl (by decide) rfl ?_
      refine ev_iload_n (j := 0) dX12_leastCost_166 rfl rfl ?_
      refine ev_if_eq 186 dX12_leastCost_167 (by decide) ⟨by decide, by decide⟩ (fun _ => ?_) (fun c9 => absurd c9 (by decide))
      refine ev_goto 71 dX12_leastCost_186 (by decide) ?_
      exact ev_sub [1, 2, 3, 0] rfl h13
    · have h14 := h11 c12
      refine ev_iconst dX12_leastCost_160 ?_
      refine ev_goto 165 dX12_leastCost_161 (by decide) ?_
      refine ev_istore_n dX12_leastCost_165 rfl (by decide) rfl ?_
      refine ev_iload_n (j := 0) dX12_leastCost_166 rfl rfl ?_
      refine ev_if_eq 186 dX12_leastCost_167 (by decide) ⟨by decide, by decide⟩ (fun c9 => absurd c9 (by decide)) (fun _ => ?_)
      refine ev_iload_n (j := 3) dX12_leastCost_170 rfl rfl ?_
      refine ev_aload_n (j := 1) dX12_leastCost_171 rfl rfl ?_
      refine ev_get frX12_68 dX12_leastCost_172 dm8_0 en8_0 rfl ?_
      refine ev_iload (j := 4) dX12_leastCost_175 rfl ?_
      obtain ⟨s15, s16, h17⟩ := h14
      refine ev_iald dX12_leastCost_177 dm8_20 ar8_20 (by decide) s15 s16 ?_
      refine ev_iadd dX12_leastCost_178 ?_
      refine ev_istore_n dX12_leastCost_179 rfl (by decide) rfl ?_
      refine ev_aload_n (j := 2) dX12_leastCost_180 rfl rfl ?_
      refine ev_iload (j := 4) dX12_leastCost_181 rfl ?_
      refine ev_callVV (As := [iv v4]) (st := []) mfX12_turnsWay mlX12_320 dX12_leastCost_183 rfl dm8_0 en8_0 rfl rfl rfl (by decide) (by decide) (by decide) (Nat.le_of_ble_eq_true rfl) (fun _ _ z => z.elim) h17 (fun M18 h19 => ?_)
      refine ev_goto 71 dX12_leastCost_186 (by decide) ?_
      exact ev_sub [2, 3, 0, 1] rfl h19
  · have h21 := h5 c6
    refine ev_aload_n (j := 0) dX12_leastCost_98 rfl rfl ?_
    refine ev_get frX12_49 dX12_leastCost_99 dm8_0 en8_0 rfl ?_
    refine ev_iload (j := 4) dX12_leastCost_102 rfl ?_
    obtain ⟨s22, s23, h24⟩ := h21
    refine ev_iald dX12_leastCost_104 dm8_14 ar8_14 (by decide) s22 s23 ?_
    obtain ⟨s25, h26⟩ := h24
    obtain ⟨h27, h28⟩ := h26
    refine ev_if_ge 145 dX12_leastCost_105 (by decide) s25 (fun c29 => ?_) (fun c29 => ?_)
    · have h30 := h27 c29
      refine ev_iload (j := 3) dX12_leastCost_145 rfl ?_
      refine ev_istore dX12_leastCost_147 (by decide) rfl ?_
      refine ev_iinc (j := 4) dX12_leastCost_149 rfl (by decide) rfl ?_
      refine ev_goto 86 dX12_leastCost_152 (by decide) ?_
      exact ev_sub [2, 3, 4, 1, 0] rfl h30
    · have h31 := h28 c29
      refine ev_aload_n (j := 0) dX12_leastCost_108 rfl rfl ?_
      refine ev_get frX12_68 dX12_leastCost_109 dm8_0 en8_0 rfl ?_
      refine ev_iload (j := 4) dX12_leastCost_112 rfl ?_
      refine ev_iald dX12_leastCost_114 dm8_20 ar8_20 (by decide) s22 s23 ?_
      obtain ⟨s32, h33⟩ := h31
      obtain ⟨h34, h35⟩ := h33
      refine ev_if_ge 145 dX12_leastCost_115 (by decide) s32 (fun c36 => ?_) (fun c36 => ?_)
      · have h37 := h34 c36
        refine ev_iload (j := 3) dX12_leastCost_145 rfl ?_
        refine ev_istore dX12_leastCost_147 (by decide) rfl ?_
        refine ev_iinc (j := 4) dX12_leastCost_149 rfl (by decide) rfl ?_
        refine ev_goto 86 dX12_leastCost_152 (by decide) ?_
        exact ev_sub [2, 3, 4, 1, 0] rfl h37
      · have h38 := h35 c36
        refine ev_iload (j := 3) dX12_leastCost_118 rfl ?_
        obtain ⟨s39, h40⟩ := h38
        obtain ⟨h41, h42⟩ := h40
        refine ev_if_lt 140 dX12_leastCost_120 (by decide) s39 (fun c43 => ?_) (fun c43 => ?_)
        · have h44 := h41 c43
          refine ev_iload (j := 4) dX12_leastCost_140 rfl ?_
          refine ev_goto 147 dX12_leastCost_142 (by decide) ?_
          refine ev_istore dX12_leastCost_147 (by decide) rfl ?_
          refine ev_iinc (j := 4) dX12_leastCost_149 rfl (by decide) rfl ?_
          refine ev_goto 86 dX12_leastCost_152 (by decide) ?_
          exact ev_sub [2, 3, 4, 1, 0] rfl h44
        · have h45 := h42 c43
          refine ev_aload_n (j := 0) dX12_leastCost_123 rfl rfl ?_
          refine ev_get frX12_68 dX12_leastCost_124 dm8_0 en8_0 rfl ?_
          refine ev_iload (j := 4) dX12_leastCost_127 rfl ?_
          refine ev_iald dX12_leastCost_129 dm8_20 ar8_20 (by decide) s22 s23 ?_
          refine ev_aload_n (j := 0) dX12_leastCost_130 rfl rfl ?_
          refine ev_get frX12_68 dX12_leastCost_131 dm8_0 en8_0 rfl ?_
          refine ev_iload (j := 3) dX12_leastCost_134 rfl ?_
          obtain ⟨s46, s47, h48⟩ := h45
          refine ev_iald dX12_leastCost_136 dm8_20 ar8_20 (by decide) s46 s47 ?_
          obtain ⟨s49, h50⟩ := h48
          obtain ⟨h51, h52⟩ := h50
          refine ev_icmp_ge 145 dX12_leastCost_137 (by decide) s32 s49 (fun c53 => ?_) (fun c53 => ?_)
          · have h54 := h51 c53
            refine ev_iload (j := 3) dX12_leastCost_145 rfl ?_
            refine ev_istore dX12_leastCost_147 (by decide) rfl ?_
            refine ev_iinc (j := 4) dX12_leastCost_149 rfl (by decide) rfl ?_
            refine ev_goto 86 dX12_leastCost_152 (by decide) ?_
            exact ev_sub [2, 3, 4, 1, 0] rfl h54
          · have h55 := h52 c53
            refine ev_iload (j := 4) dX12_leastCost_140 rfl ?_
            refine ev_goto 147 dX12_leastCost_142 (by decide) ?_
            refine ev_istore dX12_leastCost_147 (by decide) rfl ?_
            refine ev_iinc (j := 4) dX12_leastCost_149 rfl (by decide) rfl ?_
            refine ev_goto 86 dX12_leastCost_152 (by decide) ?_
            exact ev_sub [2, 3, 4, 1, 0] rfl h55
def eX12_leastVehicles (G : GT) (K : List Value → Mem → Prop) (X : String → Mem → Prop) (pc : Nat) (lv : List (Nat × Value)) (st : List Value) (M : Mem) : Prop := Ex G zX12_leastVehicles 42 0 K X 0 pc lv st M
set_option maxRecDepth 20000 in
set_option maxHeartbeats 4000000 in
theorem bX12_leastVehicles {G : GT} {K : List Value → Mem → Prop} {X : String → Mem → Prop} {M : Mem} {v1 : Int} (h : I32 v1 ∧ ((v1 = 0 → Call G 41 0 zX12_byMatching [rr G 8 0 0] (wr M 8 0 0 7 0) (kI (fun x9 M7 => K [iv x9] M7)) noX) ∧ (¬ v1 = 0 → Call G 2 0 zX12_byWaiting [rr G 8 0 0] (wr M 8 0 0 7 0) (kI (fun x13 M11 => K [iv x13] M11)) noX))) : Call G 42 0 zX12_leastVehicles [rr G 8 0 0, iv v1] M K X := by
  refine call_intro (lv := [(0, rr G 8 0 0), (1, iv v1)]) (by decide) rfl (Nat.le_of_ble_eq_true rfl) rfl ?_
  refine ev_aload_n (j := 0) dX12_leastVehicles_0 rfl rfl ?_
  refine ev_iconst dX12_leastVehicles_1 ?_
  refine ev_put fwX12_84 dX12_leastVehicles_2 dm8_0 en8_0 rfl rfl rfl (Nat.le_of_ble_eq_true rfl) ?_
  refine ev_iload_n (j := 1) dX12_leastVehicles_5 rfl rfl ?_
  obtain ⟨s1, h2⟩ := h
  obtain ⟨h3, h4⟩ := h2
  refine ev_if_eq 16 dX12_leastVehicles_6 (by decide) s1 (fun c5 => ?_) (fun c5 => ?_)
  · have h6 := h3 c5
    refine ev_aload_n (j := 0) dX12_leastVehicles_16 rfl rfl ?_
    refine ev_callVI (As := []) (st := []) mfX12_byMatching mlX12_310 dX12_leastVehicles_17 rfl dm8_0 en8_0 rfl rfl rfl (by decide) (by decide) (by decide) (Nat.le_of_ble_eq_true rfl) (fun _ _ z => z.elim) h6 (fun x9 M7 h8 => ?_)
    exact ev_iret dX12_leastVehicles_20 (by decide) rfl h8
  · have h10 := h4 c5
    refine ev_aload_n (j := 0) dX12_leastVehicles_9 rfl rfl ?_
    refine ev_callVI (As := []) (st := []) mfX12_byWaiting mlX12_307 dX12_leastVehicles_10 rfl dm8_0 en8_0 rfl rfl rfl (by decide) (by decide) (by decide) (Nat.le_of_ble_eq_true rfl) (fun _ _ z => z.elim) h10 (fun x13 M11 h12 => ?_)
    refine ev_goto 20 dX12_leastVehicles_13 (by decide) ?_
    exact ev_iret dX12_leastVehicles_20 (by decide) rfl h12
def eX12_leaves (G : GT) (K : List Value → Mem → Prop) (X : String → Mem → Prop) (pc : Nat) (lv : List (Nat × Value)) (st : List Value) (M : Mem) : Prop := Ex G zX12_leaves 2 0 K X 0 pc lv st M
set_option maxRecDepth 20000 in
set_option maxHeartbeats 4000000 in
theorem bX12_leaves {G : GT} {K : List Value → Mem → Prop} {X : String → Mem → Prop} {M : Mem} {v1 v2 : Int} (h : Call G 1 0 zX12_vehicleOf [rr G 8 0 0, iv v1] M (kI (fun x3 M1 => I32 x3 ∧ ((¬ x3 < 0 → eX12_leaves G K X 14 [(0, rr G 8 0 0), (1, iv v1), (2, iv v2), (3, iv x3), (4, iv 0)] [] M1) ∧ (x3 < 0 → K [] M1)))) noX) : Call G 2 0 zX12_leaves [rr G 8 0 0, iv v1, iv v2] M K X := by
  refine call_intro (lv := [(0, rr G 8 0 0), (1, iv v1), (2, iv v2)]) (by decide) rfl (Nat.le_of_ble_eq_true rfl) rfl ?_
  refine ev_aload_n (j := 0) dX12_leaves_0 rfl rfl ?_
  refine ev_iload_n (j := 1) dX12_leaves_1 rfl rfl ?_
  refine ev_callVI (As := [iv v1]) (st := []) mfX12_vehicleOf mlX12_166 dX12_leaves_2 rfl dm8_0 en8_0 rfl rfl rfl (by decide) (by decide) (by decide) (Nat.le_of_ble_eq_true rfl) (fun _ _ z => z.elim) h (fun x3 M1 h2 => ?_)
  refine ev_istore_n dX12_leaves_5 rfl (by decide) rfl ?_
  refine ev_iload_n (j := 0) dX12_leaves_6 rfl rfl ?_
  obtain ⟨s4, h5⟩ := h2
  obtain ⟨h6, h7⟩ := h5
  refine ev_if_ge 11 dX12_leaves_7 (by decide) s4 (fun c8 => ?_) (fun c8 => ?_)
  · have h9 := h6 c8
    refine ev_iconst dX12_leaves_11 ?_
    refine ev_istore dX12_leaves_12 (by decide) rfl ?_
    exact ev_sub [2, 3, 4, 1, 0] rfl h9
  · have h10 := h7 c8
    exact ev_vret dX12_leaves_10 (by decide) rfl h10
set_option maxRecDepth 20000 in
set_option maxHeartbeats 4000000 in
theorem bX12_leaves_14 {G : GT} {K : List Value → Mem → Prop} {X : String → Mem → Prop} {M : Mem} {v1 v2 v3 v4 : Int} (h : Call G 0 0 zX12_dutyAt [rr G 8 0 0, iv v3, iv v4] M (kI (fun x3 M1 => I32 x3 ∧ I32 v1 ∧ ((x3 = v1 → I32 v2 ∧ ((v2 = 0 → 0 ≤ 171 + v3 ∧ 171 + v3 < 500 ∧ K [] (wr M1 8 0 1 (171 + v3) (v4 + 1))) ∧ (¬ v2 = 0 → 0 ≤ 171 + v3 ∧ 171 + v3 < 500 ∧ K [] (wr M1 8 0 1 (171 + v3) v4)))) ∧ (¬ x3 = v1 → eX12_leaves G K X 14 [(0, rr G 8 0 0), (1, iv v1), (2, iv v2), (3, iv v3), (4, iv (v4 + 1))] [] M1)))) noX) : eX12_leaves G K X 14 [(0, rr G 8 0 0), (1, iv v1), (2, iv v2), (3, iv v3), (4, iv v4)] [] M := by
  show Ex G zX12_leaves 2 0 K X 0 14 [(0, rr G 8 0 0), (1, iv v1), (2, iv v2), (3, iv v3), (4, iv v4)] [] M
  refine ev_aload_n (j := 0) dX12_leaves_14 rfl rfl ?_
  refine ev_iload_n (j := 3) dX12_leaves_15 rfl rfl ?_
  refine ev_iload (j := 4) dX12_leaves_16 rfl ?_
  refine ev_callVI (As := [iv v3, iv v4]) (st := []) mfX12_dutyAt mlX12_126 dX12_leaves_18 rfl dm8_0 en8_0 rfl rfl rfl (by decide) (by decide) (by decide) (Nat.le_of_ble_eq_true rfl) (fun _ _ z => z.elim) h (fun x3 M1 h2 => ?_)
  refine ev_iload_n (j := 1) dX12_leaves_21 rfl rfl ?_
  obtain ⟨s4, s5, h6⟩ := h2
  obtain ⟨h7, h8⟩ := h6
  refine ev_icmp_eq 31 dX12_leaves_22 (by decide) s4 s5 (fun c9 => ?_) (fun c9 => ?_)
  · have h10 := h7 c9
    refine ev_aload_n (j := 0) dX12_leaves_31 rfl rfl ?_
    refine ev_get frX12_7 dX12_leaves_32 dm8_0 en8_0 rfl ?_
    refine ev_sipush dX12_leaves_35 (by decide) ?_
    refine ev_iload_n (j := 3) dX12_leaves_38 rfl rfl ?_
    refine ev_iadd dX12_leaves_39 ?_
    refine ev_iload_n (j := 2) dX12_leaves_40 rfl rfl ?_
    obtain ⟨s11, h12⟩ := h10
    obtain ⟨h13, h14⟩ := h12
    refine ev_if_eq 49 dX12_leaves_41 (by decide) s11 (fun c15 => ?_) (fun c15 => ?_)
    · have h16 := h13 c15
      refine ev_iload (j := 4) dX12_leaves_49 rfl ?_
      refine ev_iconst dX12_leaves_51 ?_
      refine ev_iadd dX12_leaves_52 ?_
      obtain ⟨s17, s18, h19⟩ := h16
      refine ev_iast dX12_leaves_53 dm8_1 ar8_1 (by decide) s17 s18 ?_
      exact ev_vret dX12_leaves_54 (by decide) rfl h19
    · have h20 := h14 c15
      refine ev_iload (j := 4) dX12_leaves_44 rfl ?_
      refine ev_goto 53 dX12_leaves_46 (by decide) ?_
      obtain ⟨s21, s22, h23⟩ := h20
      refine ev_iast dX12_leaves_53 dm8_1 ar8_1 (by decide) s21 s22 ?_
      exact ev_vret dX12_leaves_54 (by decide) rfl h23
  · have h24 := h8 c9
    refine ev_iinc (j := 4) dX12_leaves_25 rfl (by decide) rfl ?_
    refine ev_goto 14 dX12_leaves_28 (by decide) ?_
    exact ev_sub [1, 2, 3, 4, 0] rfl h24
def eX12_leaving (G : GT) (K : List Value → Mem → Prop) (X : String → Mem → Prop) (pc : Nat) (lv : List (Nat × Value)) (st : List Value) (M : Mem) : Prop := Ex G zX12_leaving 1 0 K X 0 pc lv st M
set_option maxRecDepth 20000 in
set_option maxHeartbeats 4000000 in
theorem bX12_leaving {G : GT} {K : List Value → Mem → Prop} {X : String → Mem → Prop} {M : Mem} {v1 v2 : Int} (h : Call G 0 0 zX12_in [iv v1, iv 0, iv 1] M (kI (fun x3 M1 => I32 x3 ∧ ((x3 = 0 → K [iv 0] (wr M1 8 0 0 7 1)) ∧ (¬ x3 = 0 → eX12_leaving G K X 34 [(0, rr G 8 0 0), (1, iv v1), (2, iv v2), (3, iv 0)] [] (wr (wr M1 8 0 0 7 0) 8 0 0 10 0))))) noX) : Call G 1 0 zX12_leaving [rr G 8 0 0, iv v1, iv v2] M K X := by
  refine call_intro (lv := [(0, rr G 8 0 0), (1, iv v1), (2, iv v2)]) (by decide) rfl (Nat.le_of_ble_eq_true rfl) rfl ?_
  refine ev_aload_n (j := 0) dX12_leaving_0 rfl rfl ?_
  refine ev_iload_n (j := 1) dX12_leaving_1 rfl rfl ?_
  refine ev_iconst dX12_leaving_2 ?_
  refine ev_iconst dX12_leaving_3 ?_
  refine ev_callSI (As := [iv v1, iv 0, iv 1]) (st := [rr G 8 0 0]) mfX12_in mlX12_87 dX12_leaving_4 rfl rfl (by decide) (by decide) (by decide) (Nat.le_of_ble_eq_true rfl) (fun _ _ z => z.elim) h (fun x3 M1 h2 => ?_)
  obtain ⟨s4, h5⟩ := h2
  obtain ⟨h6, h7⟩ := h5
  refine ev_if_eq 14 dX12_leaving_7 (by decide) s4 (fun c8 => ?_) (fun c8 => ?_)
  · have h9 := h6 c8
    refine ev_iconst dX12_leaving_14 ?_
    refine ev_put fwX12_84 dX12_leaving_15 dm8_0 en8_0 rfl rfl rfl (Nat.le_of_ble_eq_true rfl) ?_
    refine ev_aload_n (j := 0) dX12_leaving_18 rfl rfl ?_
    refine ev_get frX12_84 dX12_leaving_19 dm8_0 en8_0 rfl ?_
    refine ev_topI (b := 1) rfl ?_
    refine ev_if_le 27 dX12_leaving_22 (by decide) ⟨by decide, by decide⟩ (fun c9 => absurd c9 (by decide)) (fun _ => ?_)
    refine ev_iconst dX12_leaving_25 ?_
    exact ev_iret dX12_leaving_26 (by decide) rfl h9
  · have h10 := h7 c8
    refine ev_iconst dX12_leaving_10 ?_
    refine ev_goto 15 dX12_leaving_11 (by decide) ?_
    refine ev_put fwX12_84 dX12_leaving_15 dm8_0 en8_0 rfl rfl rfl (Nat.le_of_ble_eq_true rfl) ?_
    refine ev_aload_n (j := 0) dX12_leaving_18 rfl rfl ?_
    refine ev_get frX12_84 dX12_leaving_19 dm8_0 en8_0 rfl ?_
    refine ev_topI (b := 0) rfl ?_
    refine ev_if_le 27 dX12_leaving_22 (by decide) ⟨by decide, by decide⟩ (fun _ => ?_) (fun c9 => absurd c9 (by decide))
    refine ev_aload_n (j := 0) dX12_leaving_27 rfl rfl ?_
    refine ev_iconst dX12_leaving_28 ?_
    refine ev_put fwX12_201 dX12_leaving_29 dm8_0 en8_0 rfl rfl rfl (Nat.le_of_ble_eq_true rfl) ?_
    refine ev_iconst dX12_leaving_32 ?_
    refine ev_istore_n dX12_leaving_33 rfl (by decide) rfl ?_
    exact ev_sub [1, 2, 3, 0] rfl h10
set_option maxRecDepth 20000 in
set_option maxHeartbeats 4000000 in
theorem bX12_leaving_34 {G : GT} {K : List Value → Mem → Prop} {X : String → Mem → Prop} {M : Mem} {v1 v2 v3 : Int} (h : I32 v3 ∧ I32 (M 8 0 1 160) ∧ ((¬ v3 < (M 8 0 1 160) → Call G 0 0 zX12_in [iv v2, iv 0, iv ((M 8 0 0 10) - 1)] M (kI (fun x10 M8 => I32 x10 ∧ ((x10 = 0 → Call G 0 0 zX12_fails [rr G 8 0 0, iv 2] M8 (kI (fun x19 M17 => K [iv x19] M17)) noX) ∧ (¬ x10 = 0 → 0 ≤ v2 ∧ v2 < 30 ∧ K [iv (-(M8 8 0 6 v2))] M8)))) noX) ∧ (v3 < (M 8 0 1 160) → 0 ≤ 161 + v3 ∧ 161 + v3 < 500 ∧ I32 (M 8 0 1 (161 + v3)) ∧ I32 v1 ∧ ((¬ (M 8 0 1 (161 + v3)) = v1 → eX12_leaving G K X 34 [(0, rr G 8 0 0), (1, iv v1), (2, iv v2), (3, iv (v3 + 1))] [] M) ∧ ((M 8 0 1 (161 + v3)) = v1 → 0 ≤ 171 + v3 ∧ 171 + v3 < 500 ∧ I32 (M 8 0 1 (171 + v3)) ∧ ((¬ 0 < (M 8 0 1 (171 + v3)) → eX12_leaving G K X 34 [(0, rr G 8 0 0), (1, iv v1), (2, iv v2), (3, iv (v3 + 1))] [] M) ∧ (0 < (M 8 0 1 (171 + v3)) → Call G 0 0 zX12_dutyAt [rr G 8 0 0, iv v3, iv 0] M (kI (fun x48 M46 => Call G 0 0 zX12_departs [rr G 8 0 0, iv x48] M46 (kI (fun x51 M49 => Call G 0 0 zX12_comes [rr G 8 0 0, iv x51, iv (-v3)] M49 (kV (fun M52 => eX12_leaving G K X 34 [(0, rr G 8 0 0), (1, iv v1), (2, iv v2), (3, iv (v3 + 1))] [] M52)) noX)) noX)) noX))))))) : eX12_leaving G K X 34 [(0, rr G 8 0 0), (1, iv v1), (2, iv v2), (3, iv v3)] [] M := by
  show Ex G zX12_leaving 1 0 K X 0 34 [(0, rr G 8 0 0), (1, iv v1), (2, iv v2), (3, iv v3)] [] M
  refine ev_iload_n (j := 3) dX12_leaving_34 rfl rfl ?_
  refine ev_aload_n (j := 0) dX12_leaving_35 rfl rfl ?_
  refine ev_get frX12_7 dX12_leaving_36 dm8_0 en8_0 rfl ?_
  refine ev_sipush dX12_leaving_39 (by decide) ?_
  refine ev_iald dX12_leaving_42 dm8_1 ar8_1 (by decide) (by decide) (by decide) ?_
  obtain ⟨s1, s2, h3⟩ := h
  obtain ⟨h4, h5⟩ := h3
  refine ev_icmp_ge 95 dX12_leaving_43 (by decide) s1 s2 (fun c6 => ?_) (fun c6 => ?_)
  · have h7 := h4 c6
    refine ev_iload_n (j := 2) dX12_leaving_95 rfl rfl ?_
    refine ev_iconst dX12_leaving_96 ?_
    refine ev_aload_n (j := 0) dX12_leaving_97 rfl rfl ?_
    refine ev_get frX12_201 dX12_leaving_98 dm8_0 en8_0 rfl ?_
    refine ev_iconst dX12_leaving_101 ?_
    refine ev_isub dX12_leaving_102 ?_
    refine ev_callSI (As := [iv v2, iv 0, iv ((M 8 0 0 10) - 1)]) (st := []) mfX12_in mlX12_87 dX12_leaving_103 rfl rfl (by decide) (by decide) (by decide) (Nat.le_of_ble_eq_true rfl) (fun _ _ z => z.elim) h7 (fun x10 M8 h9 => ?_)
    obtain ⟨s11, h12⟩ := h9
    obtain ⟨h13, h14⟩ := h12
    refine ev_if_eq 119 dX12_leaving_106 (by decide) s11 (fun c15 => ?_) (fun c15 => ?_)
    · have h16 := h13 c15
      refine ev_aload_n (j := 0) dX12_leaving_119 rfl rfl ?_
      refine ev_iconst dX12_leaving_120 ?_
      refine ev_callVI (As := [iv 2]) (st := []) mfX12_fails mlX12_146 dX12_leaving_121 rfl dm8_0 en8_0 rfl rfl rfl (by decide) (by decide) (by decide) (Nat.le_of_ble_eq_true rfl) (fun _ _ z => z.elim) h16 (fun x19 M17 h18 => ?_)
      exact ev_iret dX12_leaving_124 (by decide) rfl h18
    · have h20 := h14 c15
      refine ev_aload_n (j := 0) dX12_leaving_109 rfl rfl ?_
      refine ev_get frX12_25 dX12_leaving_110 dm8_0 en8_0 rfl ?_
      refine ev_iload_n (j := 2) dX12_leaving_113 rfl rfl ?_
      obtain ⟨s21, s22, h23⟩ := h20
      refine ev_iald dX12_leaving_114 dm8_6 ar8_6 (by decide) s21 s22 ?_
      refine ev_ineg dX12_leaving_115 ?_
      refine ev_goto 124 dX12_leaving_116 (by decide) ?_
      exact ev_iret dX12_leaving_124 (by decide) rfl h23
  · have h24 := h5 c6
    refine ev_aload_n (j := 0) dX12_leaving_46 rfl rfl ?_
    refine ev_get frX12_7 dX12_leaving_47 dm8_0 en8_0 rfl ?_
    refine ev_sipush dX12_leaving_50 (by decide) ?_
    refine ev_iload_n (j := 3) dX12_leaving_53 rfl rfl ?_
    refine ev_iadd dX12_leaving_54 ?_
    obtain ⟨s25, s26, h27⟩ := h24
    refine ev_iald dX12_leaving_55 dm8_1 ar8_1 (by decide) s25 s26 ?_
    refine ev_iload_n (j := 1) dX12_leaving_56 rfl rfl ?_
    obtain ⟨s28, s29, h30⟩ := h27
    obtain ⟨h31, h32⟩ := h30
    refine ev_icmp_ne 89 dX12_leaving_57 (by decide) s28 s29 (fun c33 => ?_) (fun c33 => ?_)
    · have h34 := h31 c33
      refine ev_iinc (j := 3) dX12_leaving_89 rfl (by decide) rfl ?_
      refine ev_goto 34 dX12_leaving_92 (by decide) ?_
      exact ev_sub [1, 2, 3, 0] rfl h34
    · have h35 := h32 c33
      refine ev_aload_n (j := 0) dX12_leaving_60 rfl rfl ?_
      refine ev_get frX12_7 dX12_leaving_61 dm8_0 en8_0 rfl ?_
      refine ev_sipush dX12_leaving_64 (by decide) ?_
      refine ev_iload_n (j := 3) dX12_leaving_67 rfl rfl ?_
      refine ev_iadd dX12_leaving_68 ?_
      obtain ⟨s36, s37, h38⟩ := h35
      refine ev_iald dX12_leaving_69 dm8_1 ar8_1 (by decide) s36 s37 ?_
      obtain ⟨s39, h40⟩ := h38
      obtain ⟨h41, h42⟩ := h40
      refine ev_if_le 89 dX12_leaving_70 (by decide) s39 (fun c43 => ?_) (fun c43 => ?_)
      · have h44 := h41 c43
        refine ev_iinc (j := 3) dX12_leaving_89 rfl (by decide) rfl ?_
        refine ev_goto 34 dX12_leaving_92 (by decide) ?_
        exact ev_sub [1, 2, 3, 0] rfl h44
      · have h45 := h42 c43
        refine ev_aload_n (j := 0) dX12_leaving_73 rfl rfl ?_
        refine ev_aload_n (j := 0) dX12_leaving_74 rfl rfl ?_
        refine ev_aload_n (j := 0) dX12_leaving_75 rfl rfl ?_
        refine ev_iload_n (j := 3) dX12_leaving_76 rfl rfl ?_
        refine ev_iconst dX12_leaving_77 ?_
        refine ev_callVI (As := [iv v3, iv 0]) (st := [rr G 8 0 0, rr G 8 0 0]) mfX12_dutyAt mlX12_126 dX12_leaving_78 rfl dm8_0 en8_0 rfl rfl rfl (by decide) (by decide) (by decide) (Nat.le_of_ble_eq_true rfl) (fun _ _ z => z.elim) h45 (fun x48 M46 h47 => ?_)
        refine ev_callVI (As := [iv x48]) (st := [rr G 8 0 0]) mfX12_departs mlX12_109 dX12_leaving_81 rfl dm8_0 en8_0 rfl rfl rfl (by decide) (by decide) (by decide) (Nat.le_of_ble_eq_true rfl) (fun _ _ z => z.elim) h47 (fun x51 M49 h50 => ?_)
        refine ev_iload_n (j := 3) dX12_leaving_84 rfl rfl ?_
        refine ev_ineg dX12_leaving_85 ?_
        refine ev_callVV (As := [iv x51, iv (-v3)]) (st := []) mfX12_comes mlX12_207 dX12_leaving_86 rfl dm8_0 en8_0 rfl rfl rfl (by decide) (by decide) (by decide) (Nat.le_of_ble_eq_true rfl) (fun _ _ z => z.elim) h50 (fun M52 h53 => ?_)
        refine ev_iinc (j := 3) dX12_leaving_89 rfl (by decide) rfl ?_
        refine ev_goto 34 dX12_leaving_92 (by decide) ?_
        exact ev_sub [1, 2, 3, 0] rfl h53
def eX12_links (G : GT) (K : List Value → Mem → Prop) (X : String → Mem → Prop) (pc : Nat) (lv : List (Nat × Value)) (st : List Value) (M : Mem) : Prop := Ex G zX12_links 3 0 K X 0 pc lv st M
set_option maxRecDepth 20000 in
set_option maxHeartbeats 4000000 in
theorem bX12_links {G : GT} {K : List Value → Mem → Prop} {X : String → Mem → Prop} {M : Mem} {v1 v2 : Int} (h : Call G 0 0 zX12_isActive [rr G 8 0 0, iv v1] M (kI (fun x3 M1 => I32 x3 ∧ ((x3 = 0 → K [iv 0] M1) ∧ (¬ x3 = 0 → Call G 0 0 zX12_isActive [rr G 8 0 0, iv v2] M1 (kI (fun x13 M11 => I32 x13 ∧ ((x13 = 0 → K [iv 0] M11) ∧ (¬ x13 = 0 → Call G 2 0 zX12_follows [rr G 8 0 0, iv v1, iv v2] M11 (kI (fun x23 M21 => I32 x23 ∧ ((x23 = 0 → K [iv 0] M21) ∧ (¬ x23 = 0 → K [iv 1] M21)))) noX)))) noX)))) noX) : Call G 3 0 zX12_links [rr G 8 0 0, iv v1, iv v2] M K X := by
  refine call_intro (lv := [(0, rr G 8 0 0), (1, iv v1), (2, iv v2)]) (by decide) rfl (Nat.le_of_ble_eq_true rfl) rfl ?_
  refine ev_aload_n (j := 0) dX12_links_0 rfl rfl ?_
  refine ev_iload_n (j := 1) dX12_links_1 rfl rfl ?_
  refine ev_callVI (As := [iv v1]) (st := []) mfX12_isActive mlX12_149 dX12_links_2 rfl dm8_0 en8_0 rfl rfl rfl (by decide) (by decide) (by decide) (Nat.le_of_ble_eq_true rfl) (fun _ _ z => z.elim) h (fun x3 M1 h2 => ?_)
  obtain ⟨s4, h5⟩ := h2
  obtain ⟨h6, h7⟩ := h5
  refine ev_if_eq 29 dX12_links_5 (by decide) s4 (fun c8 => ?_) (fun c8 => ?_)
  · have h9 := h6 c8
    refine ev_iconst dX12_links_29 ?_
    exact ev_zret dX12_links_30 (by decide) rfl (by decide) h9
  · have h10 := h7 c8
    refine ev_aload_n (j := 0) dX12_links_8 rfl rfl ?_
    refine ev_iload_n (j := 2) dX12_links_9 rfl rfl ?_
    refine ev_callVI (As := [iv v2]) (st := []) mfX12_isActive mlX12_149 dX12_links_10 rfl dm8_0 en8_0 rfl rfl rfl (by decide) (by decide) (by decide) (Nat.le_of_ble_eq_true rfl) (fun _ _ z => z.elim) h10 (fun x13 M11 h12 => ?_)
    obtain ⟨s14, h15⟩ := h12
    obtain ⟨h16, h17⟩ := h15
    refine ev_if_eq 29 dX12_links_13 (by decide) s14 (fun c18 => ?_) (fun c18 => ?_)
    · have h19 := h16 c18
      refine ev_iconst dX12_links_29 ?_
      exact ev_zret dX12_links_30 (by decide) rfl (by decide) h19
    · have h20 := h17 c18
      refine ev_aload_n (j := 0) dX12_links_16 rfl rfl ?_
      refine ev_iload_n (j := 1) dX12_links_17 rfl rfl ?_
      refine ev_iload_n (j := 2) dX12_links_18 rfl rfl ?_
      refine ev_callVI (As := [iv v1, iv v2]) (st := []) mfX12_follows mlX12_132 dX12_links_19 rfl dm8_0 en8_0 rfl rfl rfl (by decide) (by decide) (by decide) (Nat.le_of_ble_eq_true rfl) (fun _ _ z => z.elim) h20 (fun x23 M21 h22 => ?_)
      obtain ⟨s24, h25⟩ := h22
      obtain ⟨h26, h27⟩ := h25
      refine ev_if_eq 29 dX12_links_22 (by decide) s24 (fun c28 => ?_) (fun c28 => ?_)
      · have h29 := h26 c28
        refine ev_iconst dX12_links_29 ?_
        exact ev_zret dX12_links_30 (by decide) rfl (by decide) h29
      · have h30 := h27 c28
        refine ev_iconst dX12_links_25 ?_
        refine ev_goto 30 dX12_links_26 (by decide) ?_
        exact ev_zret dX12_links_30 (by decide) rfl (by decide) h30
def eX12_looks (G : GT) (K : List Value → Mem → Prop) (X : String → Mem → Prop) (pc : Nat) (lv : List (Nat × Value)) (st : List Value) (M : Mem) : Prop := Ex G zX12_looks 3 0 K X 0 pc lv st M
set_option maxRecDepth 20000 in
set_option maxHeartbeats 4000000 in
theorem bX12_looks {G : GT} {K : List Value → Mem → Prop} {X : String → Mem → Prop} {M : Mem} {v1 : Int} (h : 0 ≤ v1 ∧ v1 < 10 ∧ Call G 0 0 zX12_dutyAt [rr G 8 0 0, iv v1, iv (M 8 0 8 v1)] M (kI (fun x6 M4 => I32 (M4 8 0 10 v1) ∧ (((M4 8 0 10 v1) < 3000 → Call G 1 0 zX12_direction [rr G 8 0 0, iv x6] M4 (kI (fun x15 M13 => 0 ≤ (12 * x15) + (M4 8 0 9 v1) ∧ (12 * x15) + (M4 8 0 9 v1) < 24 ∧ I32 (M13 8 0 11 ((12 * x15) + (M4 8 0 9 v1))) ∧ (((M13 8 0 11 ((12 * x15) + (M4 8 0 9 v1))) < 0 → eX12_looks G K X 115 [(0, rr G 8 0 0), (1, iv v1), (2, iv x6), (3, iv (M4 8 0 9 v1)), (4, iv (M4 8 0 10 v1))] [] M13) ∧ (¬ (M13 8 0 11 ((12 * x15) + (M4 8 0 9 v1))) < 0 → I32 ((M4 8 0 10 v1) - (M13 8 0 11 ((12 * x15) + (M4 8 0 9 v1)))) ∧ I32 (M13 8 0 1 36) ∧ ((¬ ((M4 8 0 10 v1) - (M13 8 0 11 ((12 * x15) + (M4 8 0 9 v1)))) < (M13 8 0 1 36) → eX12_looks G K X 115 [(0, rr G 8 0 0), (1, iv v1), (2, iv x6), (3, iv (M4 8 0 9 v1)), (4, iv (M4 8 0 10 v1))] [] M13) ∧ (((M4 8 0 10 v1) - (M13 8 0 11 ((12 * x15) + (M4 8 0 9 v1)))) < (M13 8 0 1 36) → ∀ M34 : Mem, M34 = wr M13 8 0 10 v1 ((M13 8 0 11 ((12 * x15) + (M4 8 0 9 v1))) + (M13 8 0 1 36)) → ∀ M37 : Mem, M37 = wr M34 8 0 0 19 ((M34 8 0 0 19) + ((M34 8 0 10 v1) - (M4 8 0 10 v1))) → K [] M37)))))) noX) ∧ (¬ (M4 8 0 10 v1) < 3000 → K [] (wr M4 8 0 8 v1 (-1)))))) noX) : Call G 3 0 zX12_looks [rr G 8 0 0, iv v1] M K X := by
  refine call_intro (lv := [(0, rr G 8 0 0), (1, iv v1)]) (by decide) rfl (Nat.le_of_ble_eq_true rfl) rfl ?_
  refine ev_aload_n (j := 0) dX12_looks_0 rfl rfl ?_
  refine ev_iload_n (j := 1) dX12_looks_1 rfl rfl ?_
  refine ev_aload_n (j := 0) dX12_looks_2 rfl rfl ?_
  refine ev_get frX12_31 dX12_looks_3 dm8_0 en8_0 rfl ?_
  refine ev_iload_n (j := 1) dX12_looks_6 rfl rfl ?_
  obtain ⟨s1, s2, h3⟩ := h
  refine ev_iald dX12_looks_7 dm8_8 ar8_8 (by decide) s1 s2 ?_
  refine ev_callVI (As := [iv v1, iv (M 8 0 8 v1)]) (st := []) mfX12_dutyAt mlX12_126 dX12_looks_8 rfl dm8_0 en8_0 rfl rfl rfl (by decide) (by decide) (by decide) (Nat.le_of_ble_eq_true rfl) (fun _ _ z => z.elim) h3 (fun x6 M4 h5 => ?_)
  refine ev_istore_n dX12_looks_11 rfl (by decide) rfl ?_
  refine ev_aload_n (j := 1) dX12_looks_12 rfl rfl ?_
  refine ev_get frX12_34 dX12_looks_13 dm8_0 en8_0 rfl ?_
  refine ev_iload_n (j := 2) dX12_looks_16 rfl rfl ?_
  refine ev_iald dX12_looks_17 dm8_9 ar8_9 (by decide) s1 s2 ?_
  refine ev_istore_n dX12_looks_18 rfl (by decide) rfl ?_
  refine ev_aload_n (j := 2) dX12_looks_19 rfl rfl ?_
  refine ev_get frX12_37 dX12_looks_20 dm8_0 en8_0 rfl ?_
  refine ev_iload_n (j := 3) dX12_looks_23 rfl rfl ?_
  refine ev_iald dX12_looks_24 dm8_10 ar8_10 (by decide) s1 s2 ?_
  refine ev_istore dX12_looks_25 (by decide) rfl ?_
  refine ev_iload (j := 0) dX12_looks_27 rfl ?_
  refine ev_sipush dX12_looks_29 (by decide) ?_
  obtain ⟨s7, h8⟩ := h5
  obtain ⟨h9, h10⟩ := h8
  refine ev_icmp_lt 43 dX12_looks_32 (by decide) s7 ⟨by decide, by decide⟩ (fun c11 => ?_) (fun c11 => ?_)
  · have h12 := h9 c11
    refine ev_aload_n (j := 3) dX12_looks_43 rfl rfl ?_
    refine ev_get frX12_40 dX12_looks_44 dm8_0 en8_0 rfl ?_
    refine ev_bipush dX12_looks_47 (by decide) ?_
    refine ev_aload_n (j := 3) dX12_looks_49 rfl rfl ?_
    refine ev_iload_n (j := 2) dX12_looks_50 rfl rfl ?_
    refine ev_callVI (As := [iv x6]) (st := [iv 12, rr G 8 0 11]) mfX12_direction mlX12_176 dX12_looks_51 rfl dm8_0 en8_0 rfl rfl rfl (by decide) (by decide) (by decide) (Nat.le_of_ble_eq_true rfl) (fun _ _ z => z.elim) h12 (fun x15 M13 h14 => ?_)
    refine ev_imul dX12_looks_54 ?_
    refine ev_iload_n (j := 1) dX12_looks_55 rfl rfl ?_
    refine ev_iadd dX12_looks_56 ?_
    obtain ⟨s16, s17, h18⟩ := h14
    refine ev_iald dX12_looks_57 dm8_11 ar8_11 (by decide) s16 s17 ?_
    refine ev_istore dX12_looks_58 (by decide) rfl ?_
    refine ev_iload (j := 0) dX12_looks_60 rfl ?_
    obtain ⟨s19, h20⟩ := h18
    obtain ⟨h21, h22⟩ := h20
    refine ev_if_lt 115 dX12_looks_62 (by decide) s19 (fun c23 => ?_) (fun c23 => ?_)
    · have h24 := h21 c23
      exact ev_sub [4, 5, 3, 2, 1] rfl h24
    · have h25 := h22 c23
      refine ev_iload (j := 1) dX12_looks_65 rfl ?_
      refine ev_iload (j := 0) dX12_looks_67 rfl ?_
      refine ev_isub dX12_looks_69 ?_
      refine ev_aload_n (j := 4) dX12_looks_70 rfl rfl ?_
      refine ev_get frX12_7 dX12_looks_71 dm8_0 en8_0 rfl ?_
      refine ev_bipush dX12_looks_74 (by decide) ?_
      refine ev_iald dX12_looks_76 dm8_1 ar8_1 (by decide) (by decide) (by decide) ?_
      obtain ⟨s26, s27, h28⟩ := h25
      obtain ⟨h29, h30⟩ := h28
      refine ev_icmp_ge 115 dX12_looks_77 (by decide) s26 s27 (fun c31 => ?_) (fun c31 => ?_)
      · have h32 := h29 c31
        exact ev_sub [4, 5, 3, 2, 1] rfl h32
      · have h33 := h30 c31
        refine ev_aload_n (j := 4) dX12_looks_80 rfl rfl ?_
        refine ev_get frX12_37 dX12_looks_81 dm8_0 en8_0 rfl ?_
        refine ev_iload_n (j := 5) dX12_looks_84 rfl rfl ?_
        refine ev_iload (j := 0) dX12_looks_85 rfl ?_
        refine ev_aload_n (j := 4) dX12_looks_87 rfl rfl ?_
        refine ev_get frX12_7 dX12_looks_88 dm8_0 en8_0 rfl ?_
        refine ev_bipush dX12_looks_91 (by decide) ?_
        refine ev_iald dX12_looks_93 dm8_1 ar8_1 (by decide) (by decide) (by decide) ?_
        refine ev_iadd dX12_looks_94 ?_
        refine ev_iast dX12_looks_95 dm8_10 ar8_10 (by decide) s1 s2 ?_
        obtain ⟨M34, e36⟩ : ∃ M34 : Mem, M34 = wr M13 8 0 10 v1 ((M13 8 0 11 ((12 * x15) + (M4 8 0 9 v1))) + (M13 8 0 1 36)) := ⟨_, rfl⟩
        have h35 := h33 _ e36
        refine ev_mem e36 ?_
        refine ev_aload_n (j := 4) dX12_looks_96 rfl rfl ?_
        refine ev_dup dX12_looks_97 rfl ?_
        refine ev_get frX12_251 dX12_looks_98 dm8_0 en8_0 rfl ?_
        refine ev_aload_n (j := 4) dX12_looks_101 rfl rfl ?_
        refine ev_get frX12_37 dX12_looks_102 dm8_0 en8_0 rfl ?_
        refine ev_iload_n (j := 5) dX12_looks_105 rfl rfl ?_
        refine ev_iald dX12_looks_106 dm8_10 ar8_10 (by decide) s1 s2 ?_
        refine ev_iload (j := 1) dX12_looks_107 rfl ?_
        refine ev_isub dX12_looks_109 ?_
        refine ev_iadd dX12_looks_110 ?_
        refine ev_put fwX12_251 dX12_looks_111 dm8_0 en8_0 rfl rfl rfl (Nat.le_of_ble_eq_true rfl) ?_
        obtain ⟨M37, e39⟩ : ∃ M37 : Mem, M37 = wr M34 8 0 0 19 ((M34 8 0 0 19) + ((M34 8 0 10 v1) - (M4 8 0 10 v1))) := ⟨_, rfl⟩
        have h38 := h35 _ e39
        refine ev_mem e39 ?_
        exact ev_vret dX12_looks_114 (by decide) rfl h38
  · have h40 := h10 c11
    refine ev_aload_n (j := 3) dX12_looks_35 rfl rfl ?_
    refine ev_get frX12_31 dX12_looks_36 dm8_0 en8_0 rfl ?_
    refine ev_iload_n (j := 4) dX12_looks_39 rfl rfl ?_
    refine ev_iconst dX12_looks_40 ?_
    refine ev_iast dX12_looks_41 dm8_8 ar8_8 (by decide) s1 s2 ?_
    exact ev_vret dX12_looks_42 (by decide) rfl h40
set_option maxRecDepth 20000 in
set_option maxHeartbeats 4000000 in
theorem bX12_looks_115 {G : GT} {K : List Value → Mem → Prop} {X : String → Mem → Prop} {M : Mem} {v1 v2 v3 v4 : Int} (h : Call G 1 0 zX12_direction [rr G 8 0 0, iv v2] M (kI (fun x3 M1 => I32 x3 ∧ ((¬ x3 = 0 → eX12_looks G K X 130 [(0, rr G 8 0 0), (1, iv v1), (2, iv v2), (3, iv v3), (4, iv v4)] [iv (v3 - 1)] M1) ∧ (x3 = 0 → eX12_looks G K X 130 [(0, rr G 8 0 0), (1, iv v1), (2, iv v2), (3, iv v3), (4, iv v4)] [iv v3] M1)))) noX) : eX12_looks G K X 115 [(0, rr G 8 0 0), (1, iv v1), (2, iv v2), (3, iv v3), (4, iv v4)] [] M := by
  show Ex G zX12_looks 3 0 K X 0 115 [(0, rr G 8 0 0), (1, iv v1), (2, iv v2), (3, iv v3), (4, iv v4)] [] M
  refine ev_aload_n (j := 0) dX12_looks_115 rfl rfl ?_
  refine ev_iload_n (j := 2) dX12_looks_116 rfl rfl ?_
  refine ev_callVI (As := [iv v2]) (st := []) mfX12_direction mlX12_176 dX12_looks_117 rfl dm8_0 en8_0 rfl rfl rfl (by decide) (by decide) (by decide) (Nat.le_of_ble_eq_true rfl) (fun _ _ z => z.elim) h (fun x3 M1 h2 => ?_)
  obtain ⟨s4, h5⟩ := h2
  obtain ⟨h6, h7⟩ := h5
  refine ev_if_ne 127 dX12_looks_120 (by decide) s4 (fun c8 => ?_) (fun c8 => ?_)
  · have h9 := h6 c8
    refine ev_iload_n (j := 3) dX12_looks_127 rfl rfl ?_
    refine ev_iconst dX12_looks_128 ?_
    refine ev_isub dX12_looks_129 ?_
    exact ev_sub [0, 1, 2, 3, 4] rfl h9
  · have h10 := h7 c8
    refine ev_iload_n (j := 3) dX12_looks_123 rfl rfl ?_
    refine ev_goto 130 dX12_looks_124 (by decide) ?_
    exact ev_sub [0, 1, 2, 3, 4] rfl h10
set_option maxRecDepth 20000 in
set_option maxHeartbeats 4000000 in
theorem bX12_looks_130 {G : GT} {K : List Value → Mem → Prop} {X : String → Mem → Prop} {M : Mem} {v1 v2 v3 v4 w0 : Int} (h : Call G 1 0 zX12_blockOn [rr G 8 0 0, iv w0, iv v4] M (kI (fun x3 M1 => I32 x3 ∧ ((x3 < 0 → eX12_looks G K X 202 [(0, rr G 8 0 0), (1, iv v1), (2, iv v2), (3, iv v3), (4, iv v4), (6, iv w0), (7, iv x3)] [] M1) ∧ (¬ x3 < 0 → 0 ≤ 11 + w0 ∧ 11 + w0 < 500 ∧ I32 (M1 8 0 1 (11 + w0)) ∧ ((¬ (M1 8 0 1 (11 + w0)) = 0 → eX12_looks G K X 202 [(0, rr G 8 0 0), (1, iv v1), (2, iv v2), (3, iv v3), (4, iv v4), (6, iv w0), (7, iv x3)] [] M1) ∧ ((M1 8 0 1 (11 + w0)) = 0 → 0 ≤ (482 + (3 * x3)) + 2 ∧ (482 + (3 * x3)) + 2 < 500 ∧ 0 ≤ v1 ∧ v1 < 10 ∧ ∀ M27 : Mem, M27 = wr (wr M1 8 0 10 v1 ((M1 8 0 1 ((482 + (3 * x3)) + 2)) + 1)) 8 0 0 20 ((M1 8 0 0 20) + (((wr M1 8 0 10 v1 ((M1 8 0 1 ((482 + (3 * x3)) + 2)) + 1)) 8 0 10 v1) - v4)) → K [] M27)))))) noX) : eX12_looks G K X 130 [(0, rr G 8 0 0), (1, iv v1), (2, iv v2), (3, iv v3), (4, iv v4)] [iv w0] M := by
  show Ex G zX12_looks 3 0 K X 0 130 [(0, rr G 8 0 0), (1, iv v1), (2, iv v2), (3, iv v3), (4, iv v4)] [iv w0] M
  refine ev_istore dX12_looks_130 (by decide) rfl ?_
  refine ev_aload_n (j := 1) dX12_looks_132 rfl rfl ?_
  refine ev_iload (j := 0) dX12_looks_133 rfl ?_
  refine ev_iload (j := 5) dX12_looks_135 rfl ?_
  refine ev_callVI (As := [iv w0, iv v4]) (st := []) mfX12_blockOn mlX12_267 dX12_looks_137 rfl dm8_0 en8_0 rfl rfl rfl (by decide) (by decide) (by decide) (Nat.le_of_ble_eq_true rfl) (fun _ _ z => z.elim) h (fun x3 M1 h2 => ?_)
  refine ev_istore dX12_looks_140 (by decide) rfl ?_
  refine ev_iload (j := 0) dX12_looks_142 rfl ?_
  obtain ⟨s4, h5⟩ := h2
  obtain ⟨h6, h7⟩ := h5
  refine ev_if_lt 202 dX12_looks_144 (by decide) s4 (fun c8 => ?_) (fun c8 => ?_)
  · have h9 := h6 c8
    exact ev_sub [2, 3, 4, 5, 6, 1, 0] rfl h9
  · have h10 := h7 c8
    refine ev_aload_n (j := 2) dX12_looks_147 rfl rfl ?_
    refine ev_get frX12_7 dX12_looks_148 dm8_0 en8_0 rfl ?_
    refine ev_bipush dX12_looks_151 (by decide) ?_
    refine ev_iload (j := 1) dX12_looks_153 rfl ?_
    refine ev_iadd dX12_looks_155 ?_
    obtain ⟨s11, s12, h13⟩ := h10
    refine ev_iald dX12_looks_156 dm8_1 ar8_1 (by decide) s11 s12 ?_
    obtain ⟨s14, h15⟩ := h13
    obtain ⟨h16, h17⟩ := h15
    refine ev_if_ne 202 dX12_looks_157 (by decide) s14 (fun c18 => ?_) (fun c18 => ?_)
    · have h19 := h16 c18
      exact ev_sub [2, 3, 4, 5, 6, 1, 0] rfl h19
    · have h20 := h17 c18
      refine ev_aload_n (j := 2) dX12_looks_160 rfl rfl ?_
      refine ev_get frX12_37 dX12_looks_161 dm8_0 en8_0 rfl ?_
      refine ev_iload_n (j := 3) dX12_looks_164 rfl rfl ?_
      refine ev_aload_n (j := 2) dX12_looks_165 rfl rfl ?_
      refine ev_get frX12_7 dX12_looks_166 dm8_0 en8_0 rfl ?_
      refine ev_sipush dX12_looks_169 (by decide) ?_
      refine ev_iconst dX12_looks_172 ?_
      refine ev_iload (j := 0) dX12_looks_173 rfl ?_
      refine ev_imul dX12_looks_175 ?_
      refine ev_iadd dX12_looks_176 ?_
      refine ev_iconst dX12_looks_177 ?_
      refine ev_iadd dX12_looks_178 ?_
      obtain ⟨s21, s22, h23⟩ := h20
      refine ev_iald dX12_looks_179 dm8_1 ar8_1 (by decide) s21 s22 ?_
      refine ev_iconst dX12_looks_180 ?_
      refine ev_iadd dX12_looks_181 ?_
      obtain ⟨s24, s25, h26⟩ := h23
      refine ev_iast dX12_looks_182 dm8_10 ar8_10 (by decide) s24 s25 ?_
      refine ev_aload_n (j := 2) dX12_looks_183 rfl rfl ?_
      refine ev_dup dX12_looks_184 rfl ?_
      refine ev_get frX12_254 dX12_looks_185 dm8_0 en8_0 rfl ?_
      refine ev_topI (b := M1 8 0 0 20) rfl ?_
      refine ev_aload_n (j := 2) dX12_looks_188 rfl rfl ?_
      refine ev_get frX12_37 dX12_looks_189 dm8_0 en8_0 rfl ?_
      refine ev_iload_n (j := 3) dX12_looks_192 rfl rfl ?_
      refine ev_iald dX12_looks_193 dm8_10 ar8_10 (by decide) s24 s25 ?_
      refine ev_iload (j := 6) dX12_looks_194 rfl ?_
      refine ev_isub dX12_looks_196 ?_
      refine ev_iadd dX12_looks_197 ?_
      refine ev_put fwX12_254 dX12_looks_198 dm8_0 en8_0 rfl rfl rfl (Nat.le_of_ble_eq_true rfl) ?_
      obtain ⟨M27, e29⟩ : ∃ M27 : Mem, M27 = wr (wr M1 8 0 10 v1 ((M1 8 0 1 ((482 + (3 * x3)) + 2)) + 1)) 8 0 0 20 ((M1 8 0 0 20) + (((wr M1 8 0 10 v1 ((M1 8 0 1 ((482 + (3 * x3)) + 2)) + 1)) 8 0 10 v1) - v4)) := ⟨_, rfl⟩
      have h28 := h26 _ e29
      refine ev_mem e29 ?_
      exact ev_vret dX12_looks_201 (by decide) rfl h28
set_option maxRecDepth 20000 in
set_option maxHeartbeats 4000000 in
theorem bX12_looks_202 {G : GT} {K : List Value → Mem → Prop} {X : String → Mem → Prop} {M : Mem} {v1 v2 v3 v4 v6 v7 : Int} (h : Call G 1 0 zX12_direction [rr G 8 0 0, iv v2] M (kI (fun x3 M1 => 0 ≤ (12 * x3) + v3 ∧ (12 * x3) + v3 < 24 ∧ 0 ≤ (12 * v2) + v3 ∧ (12 * v2) + v3 < 360 ∧ ∀ M10 : Mem, M10 = wr (wr M1 8 0 11 ((12 * x3) + v3) v4) 8 0 13 ((12 * v2) + v3) v4 → I32 v7 ∧ ((v7 < 0 → eX12_looks G K X 247 [(0, rr G 8 0 0), (1, iv v1), (2, iv v2), (3, iv v3), (4, iv v4), (6, iv v6), (7, iv v7)] [iv 0, iv (M10 8 0 0 18), rr G 8 0 0] M10) ∧ (¬ v7 < 0 → eX12_looks G K X 247 [(0, rr G 8 0 0), (1, iv v1), (2, iv v2), (3, iv v3), (4, iv v4), (6, iv v6), (7, iv v7)] [iv 1, iv (M10 8 0 0 18), rr G 8 0 0] M10)))) noX) : eX12_looks G K X 202 [(0, rr G 8 0 0), (1, iv v1), (2, iv v2), (3, iv v3), (4, iv v4), (6, iv v6), (7, iv v7)] [] M := by
  show Ex G zX12_looks 3 0 K X 0 202 [(0, rr G 8 0 0), (1, iv v1), (2, iv v2), (3, iv v3), (4, iv v4), (6, iv v6), (7, iv v7)] [] M
  refine ev_aload_n (j := 0) dX12_looks_202 rfl rfl ?_
  refine ev_get frX12_40 dX12_looks_203 dm8_0 en8_0 rfl ?_
  refine ev_bipush dX12_looks_206 (by decide) ?_
  refine ev_aload_n (j := 0) dX12_looks_208 rfl rfl ?_
  refine ev_iload_n (j := 2) dX12_looks_209 rfl rfl ?_
  refine ev_callVI (As := [iv v2]) (st := [iv 12, rr G 8 0 11]) mfX12_direction mlX12_176 dX12_looks_210 rfl dm8_0 en8_0 rfl rfl rfl (by decide) (by decide) (by decide) (Nat.le_of_ble_eq_true rfl) (fun _ _ z => z.elim) h (fun x3 M1 h2 => ?_)
  refine ev_imul dX12_looks_213 ?_
  refine ev_iload_n (j := 3) dX12_looks_214 rfl rfl ?_
  refine ev_iadd dX12_looks_215 ?_
  refine ev_iload (j := 4) dX12_looks_216 rfl ?_
  obtain ⟨s4, s5, h6⟩ := h2
  refine ev_iast dX12_looks_218 dm8_11 ar8_11 (by decide) s4 s5 ?_
  refine ev_aload_n (j := 0) dX12_looks_219 rfl rfl ?_
  refine ev_get frX12_46 dX12_looks_220 dm8_0 en8_0 rfl ?_
  refine ev_bipush dX12_looks_223 (by decide) ?_
  refine ev_iload_n (j := 2) dX12_looks_225 rfl rfl ?_
  refine ev_imul dX12_looks_226 ?_
  refine ev_iload_n (j := 3) dX12_looks_227 rfl rfl ?_
  refine ev_iadd dX12_looks_228 ?_
  refine ev_iload (j := 4) dX12_looks_229 rfl ?_
  obtain ⟨s7, s8, h9⟩ := h6
  refine ev_iast dX12_looks_231 dm8_13 ar8_13 (by decide) s7 s8 ?_
  obtain ⟨M10, e12⟩ : ∃ M10 : Mem, M10 = wr (wr M1 8 0 11 ((12 * x3) + v3) v4) 8 0 13 ((12 * v2) + v3) v4 := ⟨_, rfl⟩
  have h11 := h9 _ e12
  refine ev_mem e12 ?_
  refine ev_aload_n (j := 0) dX12_looks_232 rfl rfl ?_
  refine ev_dup dX12_looks_233 rfl ?_
  refine ev_get frX12_248 dX12_looks_234 dm8_0 en8_0 rfl ?_
  refine ev_iload (j := 6) dX12_looks_237 rfl ?_
  obtain ⟨s13, h14⟩ := h11
  obtain ⟨h15, h16⟩ := h14
  refine ev_if_lt 246 dX12_looks_239 (by decide) s13 (fun c17 => ?_) (fun c17 => ?_)
  · have h18 := h15 c17
    refine ev_iconst dX12_looks_246 ?_
    exact ev_sub [0, 1, 2, 3, 4, 5, 6] rfl h18
  · have h19 := h16 c17
    refine ev_iconst dX12_looks_242 ?_
    refine ev_goto 247 dX12_looks_243 (by decide) ?_
    exact ev_sub [0, 1, 2, 3, 4, 5, 6] rfl h19
set_option maxRecDepth 20000 in
set_option maxHeartbeats 4000000 in
theorem bX12_looks_247 {G : GT} {K : List Value → Mem → Prop} {X : String → Mem → Prop} {M : Mem} {v1 v2 v3 v4 v6 v7 w0 w1 : Int} (h : Call G 1 0 zX12_direction [rr G 8 0 0, iv v2] (wr M 8 0 0 18 (w1 + w0)) (kI (fun x3 M1 => I32 x3 ∧ ((¬ x3 = 0 → eX12_looks G K X 271 [(0, rr G 8 0 0), (4, iv v4), (6, iv v6), (7, iv v7)] [iv (v3 - 1), iv v2, iv v1, rr G 8 0 0] M1) ∧ (x3 = 0 → eX12_looks G K X 271 [(0, rr G 8 0 0), (4, iv v4), (6, iv v6), (7, iv v7)] [iv (v3 + 1), iv v2, iv v1, rr G 8 0 0] M1)))) noX) : eX12_looks G K X 247 [(0, rr G 8 0 0), (1, iv v1), (2, iv v2), (3, iv v3), (4, iv v4), (6, iv v6), (7, iv v7)] [iv w0, iv w1, rr G 8 0 0] M := by
  show Ex G zX12_looks 3 0 K X 0 247 [(0, rr G 8 0 0), (1, iv v1), (2, iv v2), (3, iv v3), (4, iv v4), (6, iv v6), (7, iv v7)] [iv w0, iv w1, rr G 8 0 0] M
  refine ev_iadd dX12_looks_247 ?_
  refine ev_put fwX12_248 dX12_looks_248 dm8_0 en8_0 rfl rfl rfl (Nat.le_of_ble_eq_true rfl) ?_
  refine ev_aload_n (j := 0) dX12_looks_251 rfl rfl ?_
  refine ev_iload_n (j := 1) dX12_looks_252 rfl rfl ?_
  refine ev_iload_n (j := 2) dX12_looks_253 rfl rfl ?_
  refine ev_aload_n (j := 0) dX12_looks_254 rfl rfl ?_
  refine ev_iload_n (j := 2) dX12_looks_255 rfl rfl ?_
  refine ev_callVI (As := [iv v2]) (st := [iv v2, iv v1, rr G 8 0 0]) mfX12_direction mlX12_176 dX12_looks_256 rfl dm8_0 en8_0 rfl rfl rfl (by decide) (by decide) (by decide) (Nat.le_of_ble_eq_true rfl) (fun _ _ z => z.elim) h (fun x3 M1 h2 => ?_)
  obtain ⟨s4, h5⟩ := h2
  obtain ⟨h6, h7⟩ := h5
  refine ev_if_ne 268 dX12_looks_259 (by decide) s4 (fun c8 => ?_) (fun c8 => ?_)
  · have h9 := h6 c8
    refine ev_iload_n (j := 3) dX12_looks_268 rfl rfl ?_
    refine ev_iconst dX12_looks_269 ?_
    refine ev_isub dX12_looks_270 ?_
    exact ev_sub [0, 4, 5, 6] rfl h9
  · have h10 := h7 c8
    refine ev_iload_n (j := 3) dX12_looks_262 rfl rfl ?_
    refine ev_iconst dX12_looks_263 ?_
    refine ev_iadd dX12_looks_264 ?_
    refine ev_goto 271 dX12_looks_265 (by decide) ?_
    exact ev_sub [0, 4, 5, 6] rfl h10
set_option maxRecDepth 20000 in
set_option maxHeartbeats 4000000 in
theorem bX12_looks_271 {G : GT} {K : List Value → Mem → Prop} {X : String → Mem → Prop} {M : Mem} {v4 v6 v7 w0 w1 w2 : Int} (h : I32 v7 ∧ ((v7 < 0 → 0 ≤ v6 ∧ v6 < 500 ∧ eX12_looks G K X 298 [] [iv (M 8 0 1 v6), iv v4, iv w0, iv w1, iv w2, rr G 8 0 0] M) ∧ (¬ v7 < 0 → 0 ≤ 11 + v6 ∧ 11 + v6 < 500 ∧ eX12_looks G K X 298 [] [iv (M 8 0 1 (11 + v6)), iv v4, iv w0, iv w1, iv w2, rr G 8 0 0] M))) : eX12_looks G K X 271 [(0, rr G 8 0 0), (4, iv v4), (6, iv v6), (7, iv v7)] [iv w0, iv w1, iv w2, rr G 8 0 0] M := by
  show Ex G zX12_looks 3 0 K X 0 271 [(0, rr G 8 0 0), (4, iv v4), (6, iv v6), (7, iv v7)] [iv w0, iv w1, iv w2, rr G 8 0 0] M
  refine ev_iload (j := 1) dX12_looks_271 rfl ?_
  refine ev_iload (j := 3) dX12_looks_273 rfl ?_
  obtain ⟨s1, h2⟩ := h
  obtain ⟨h3, h4⟩ := h2
  refine ev_if_lt 291 dX12_looks_275 (by decide) s1 (fun c5 => ?_) (fun c5 => ?_)
  · have h6 := h3 c5
    refine ev_aload_n (j := 0) dX12_looks_291 rfl rfl ?_
    refine ev_get frX12_7 dX12_looks_292 dm8_0 en8_0 rfl ?_
    refine ev_iload (j := 2) dX12_looks_295 rfl ?_
    obtain ⟨s7, s8, h9⟩ := h6
    refine ev_iald dX12_looks_297 dm8_1 ar8_1 (by decide) s7 s8 ?_
    exact ev_sub [] rfl h9
  · have h10 := h4 c5
    refine ev_aload_n (j := 0) dX12_looks_278 rfl rfl ?_
    refine ev_get frX12_7 dX12_looks_279 dm8_0 en8_0 rfl ?_
    refine ev_bipush dX12_looks_282 (by decide) ?_
    refine ev_iload (j := 2) dX12_looks_284 rfl ?_
    refine ev_iadd dX12_looks_286 ?_
    obtain ⟨s11, s12, h13⟩ := h10
    refine ev_iald dX12_looks_287 dm8_1 ar8_1 (by decide) s11 s12 ?_
    refine ev_goto 298 dX12_looks_288 (by decide) ?_
    exact ev_sub [] rfl h13
set_option maxRecDepth 20000 in
set_option maxHeartbeats 4000000 in
theorem bX12_looks_298 {G : GT} {K : List Value → Mem → Prop} {X : String → Mem → Prop} {M : Mem} {w0 w1 w2 w3 w4 : Int} (h : Call G 2 0 zX12_arrivesAt [rr G 8 0 0, iv w4, iv w3, iv w2, iv (w1 + w0)] M (kV (fun M1 => K [] M1)) noX) : eX12_looks G K X 298 [] [iv w0, iv w1, iv w2, iv w3, iv w4, rr G 8 0 0] M := by
  show Ex G zX12_looks 3 0 K X 0 298 [] [iv w0, iv w1, iv w2, iv w3, iv w4, rr G 8 0 0] M
  refine ev_iadd dX12_looks_298 ?_
  refine ev_callVV (As := [iv w4, iv w3, iv w2, iv (w1 + w0)]) (st := []) mfX12_arrivesAt mlX12_270 dX12_looks_299 rfl dm8_0 en8_0 rfl rfl rfl (by decide) (by decide) (by decide) (Nat.le_of_ble_eq_true rfl) (fun _ _ z => z.elim) h (fun M1 h2 => ?_)
  exact ev_vret dX12_looks_302 (by decide) rfl h2
def eX12_meanDelay (G : GT) (K : List Value → Mem → Prop) (X : String → Mem → Prop) (pc : Nat) (lv : List (Nat × Value)) (st : List Value) (M : Mem) : Prop := Ex G zX12_meanDelay 6 0 K X 0 pc lv st M
set_option maxRecDepth 20000 in
set_option maxHeartbeats 4000000 in
theorem bX12_meanDelay {G : GT} {K : List Value → Mem → Prop} {X : String → Mem → Prop} {M : Mem} (h : Call G 5 0 zX12_sums [rr G 8 0 0] M (kV (fun M1 => I32 (M1 8 0 0 21) ∧ ((¬ (M1 8 0 0 21) = 0 → vf_n64 (FP.ddiv (FP.i2d (J (M1 8 0 0 22))) (FP.i2d (J (M1 8 0 0 21)))) ∧ K [.double (FP.ddiv (FP.i2d (J (M1 8 0 0 22))) (FP.i2d (J (M1 8 0 0 21))))] (wr M1 8 0 0 7 0)) ∧ ((M1 8 0 0 21) = 0 → K [.double FP.dconst0] (wr M1 8 0 0 7 1))))) noX) : Call G 6 0 zX12_meanDelay [rr G 8 0 0] M K X := by
  refine call_intro (lv := [(0, rr G 8 0 0)]) (by decide) rfl (Nat.le_of_ble_eq_true rfl) rfl ?_
  refine ev_aload_n (j := 0) dX12_meanDelay_0 rfl rfl ?_
  refine ev_callVV (As := []) (st := []) mfX12_sums mlX12_292 dX12_meanDelay_1 rfl dm8_0 en8_0 rfl rfl rfl (by decide) (by decide) (by decide) (Nat.le_of_ble_eq_true rfl) (fun _ _ z => z.elim) h (fun M1 h2 => ?_)
  refine ev_aload_n (j := 0) dX12_meanDelay_4 rfl rfl ?_
  refine ev_aload_n (j := 0) dX12_meanDelay_5 rfl rfl ?_
  refine ev_get frX12_283 dX12_meanDelay_6 dm8_0 en8_0 rfl ?_
  obtain ⟨s4, h5⟩ := h2
  obtain ⟨h6, h7⟩ := h5
  refine ev_if_ne 16 dX12_meanDelay_9 (by decide) s4 (fun c8 => ?_) (fun c8 => ?_)
  · have h9 := h6 c8
    refine ev_iconst dX12_meanDelay_16 ?_
    refine ev_put fwX12_84 dX12_meanDelay_17 dm8_0 en8_0 rfl rfl rfl (Nat.le_of_ble_eq_true rfl) ?_
    refine ev_aload_n (j := 0) dX12_meanDelay_20 rfl rfl ?_
    refine ev_get frX12_84 dX12_meanDelay_21 dm8_0 en8_0 rfl ?_
    refine ev_topI (b := 0) rfl ?_
    refine ev_if_le 31 dX12_meanDelay_24 (by decide) ⟨by decide, by decide⟩ (fun _ => ?_) (fun c9 => absurd c9 (by decide))
    refine ev_aload_n (j := 0) dX12_meanDelay_31 rfl rfl ?_
    refine ev_get frX12_286 dX12_meanDelay_32 dm8_0 en8_0 rfl ?_
    refine ev_topI (b := M1 8 0 0 22) rfl ?_
    refine ev_i2d dX12_meanDelay_35 ?_
    refine ev_aload_n (j := 0) dX12_meanDelay_36 rfl rfl ?_
    refine ev_get frX12_283 dX12_meanDelay_37 dm8_0 en8_0 rfl ?_
    refine ev_topI (b := M1 8 0 0 21) rfl ?_
    refine ev_i2d dX12_meanDelay_40 ?_
    obtain ⟨s10, h11⟩ := h9
    refine ev_ddiv dX12_meanDelay_41 s10 ?_
    exact ev_dret dX12_meanDelay_42 (by decide) rfl h11
  · have h12 := h7 c8
    refine ev_iconst dX12_meanDelay_12 ?_
    refine ev_goto 17 dX12_meanDelay_13 (by decide) ?_
    refine ev_put fwX12_84 dX12_meanDelay_17 dm8_0 en8_0 rfl rfl rfl (Nat.le_of_ble_eq_true rfl) ?_
    refine ev_aload_n (j := 0) dX12_meanDelay_20 rfl rfl ?_
    refine ev_get frX12_84 dX12_meanDelay_21 dm8_0 en8_0 rfl ?_
    refine ev_topI (b := 1) rfl ?_
    refine ev_if_le 31 dX12_meanDelay_24 (by decide) ⟨by decide, by decide⟩ (fun c9 => absurd c9 (by decide)) (fun _ => ?_)
    refine ev_dconst0 dX12_meanDelay_27 ?_
    refine ev_goto 42 dX12_meanDelay_28 (by decide) ?_
    exact ev_dret dX12_meanDelay_42 (by decide) rfl h12
def eX12_meanHeadway (G : GT) (K : List Value → Mem → Prop) (X : String → Mem → Prop) (pc : Nat) (lv : List (Nat × Value)) (st : List Value) (M : Mem) : Prop := Ex G zX12_meanHeadway 4 0 K X 0 pc lv st M
set_option maxRecDepth 20000 in
set_option maxHeartbeats 4000000 in
theorem bX12_meanHeadway {G : GT} {K : List Value → Mem → Prop} {X : String → Mem → Prop} {M : Mem} {v1 v2 : Int} (h : Call G 0 0 zX12_in [iv v1, iv 0, iv 1] M (kI (fun x3 M1 => I32 x3 ∧ ((x3 = 0 → K [.double FP.dconst0] (wr M1 8 0 0 7 1)) ∧ (¬ x3 = 0 → Call G 1 0 zX12_isStop [iv v2] M1 (kI (fun x13 M11 => I32 x13 ∧ ((x13 = 0 → K [.double FP.dconst0] (wr M11 8 0 0 7 1)) ∧ (¬ x13 = 0 → Call G 3 0 zX12_passages [rr G 8 0 0, iv v1, iv v2] (wr M11 8 0 0 7 0) (kV (fun M21 => I32 (M21 8 0 0 10) ∧ ((¬ (M21 8 0 0 10) < 2 → 0 ≤ (M21 8 0 0 10) - 1 ∧ (M21 8 0 0 10) - 1 < 30 ∧ vf_n64 (FP.ddiv (FP.i2d (J ((M21 8 0 5 ((M21 8 0 0 10) - 1)) - (M21 8 0 5 0)))) (FP.i2d (J ((M21 8 0 0 10) - 1)))) ∧ K [.double (FP.ddiv (FP.i2d (J ((M21 8 0 5 ((M21 8 0 0 10) - 1)) - (M21 8 0 5 0)))) (FP.i2d (J ((M21 8 0 0 10) - 1))))] (wr M21 8 0 0 7 0)) ∧ ((M21 8 0 0 10) < 2 → K [.double FP.dconst0] (wr M21 8 0 0 7 2))))) noX)))) noX)))) noX) : Call G 4 0 zX12_meanHeadway [rr G 8 0 0, iv v1, iv v2] M K X := by
  refine call_intro (lv := [(0, rr G 8 0 0), (1, iv v1), (2, iv v2)]) (by decide) rfl (Nat.le_of_ble_eq_true rfl) rfl ?_
  refine ev_aload_n (j := 0) dX12_meanHeadway_0 rfl rfl ?_
  refine ev_iload_n (j := 1) dX12_meanHeadway_1 rfl rfl ?_
  refine ev_iconst dX12_meanHeadway_2 ?_
  refine ev_iconst dX12_meanHeadway_3 ?_
  refine ev_callSI (As := [iv v1, iv 0, iv 1]) (st := [rr G 8 0 0]) mfX12_in mlX12_87 dX12_meanHeadway_4 rfl rfl (by decide) (by decide) (by decide) (Nat.le_of_ble_eq_true rfl) (fun _ _ z => z.elim) h (fun x3 M1 h2 => ?_)
  obtain ⟨s4, h5⟩ := h2
  obtain ⟨h6, h7⟩ := h5
  refine ev_if_eq 21 dX12_meanHeadway_7 (by decide) s4 (fun c8 => ?_) (fun c8 => ?_)
  · have h9 := h6 c8
    refine ev_iconst dX12_meanHeadway_21 ?_
    refine ev_put fwX12_84 dX12_meanHeadway_22 dm8_0 en8_0 rfl rfl rfl (Nat.le_of_ble_eq_true rfl) ?_
    refine ev_aload_n (j := 0) dX12_meanHeadway_25 rfl rfl ?_
    refine ev_get frX12_84 dX12_meanHeadway_26 dm8_0 en8_0 rfl ?_
    refine ev_topI (b := 1) rfl ?_
    refine ev_if_le 34 dX12_meanHeadway_29 (by decide) ⟨by decide, by decide⟩ (fun c9 => absurd c9 (by decide)) (fun _ => ?_)
    refine ev_dconst0 dX12_meanHeadway_32 ?_
    exact ev_dret dX12_meanHeadway_33 (by decide) rfl h9
  · have h10 := h7 c8
    refine ev_iload_n (j := 2) dX12_meanHeadway_10 rfl rfl ?_
    refine ev_callSI (As := [iv v2]) (st := [rr G 8 0 0]) mfX12_isStop mlX12_155 dX12_meanHeadway_11 rfl rfl (by decide) (by decide) (by decide) (Nat.le_of_ble_eq_true rfl) (fun _ _ z => z.elim) h10 (fun x13 M11 h12 => ?_)
    obtain ⟨s14, h15⟩ := h12
    obtain ⟨h16, h17⟩ := h15
    refine ev_if_eq 21 dX12_meanHeadway_14 (by decide) s14 (fun c18 => ?_) (fun c18 => ?_)
    · have h19 := h16 c18
      refine ev_iconst dX12_meanHeadway_21 ?_
      refine ev_put fwX12_84 dX12_meanHeadway_22 dm8_0 en8_0 rfl rfl rfl (Nat.le_of_ble_eq_true rfl) ?_
      refine ev_aload_n (j := 0) dX12_meanHeadway_25 rfl rfl ?_
      refine ev_get frX12_84 dX12_meanHeadway_26 dm8_0 en8_0 rfl ?_
      refine ev_topI (b := 1) rfl ?_
      refine ev_if_le 34 dX12_meanHeadway_29 (by decide) ⟨by decide, by decide⟩ (fun c9 => absurd c9 (by decide)) (fun _ => ?_)
      refine ev_dconst0 dX12_meanHeadway_32 ?_
      exact ev_dret dX12_meanHeadway_33 (by decide) rfl h19
    · have h20 := h17 c18
      refine ev_iconst dX12_meanHeadway_17 ?_
      refine ev_goto 22 dX12_meanHeadway_18 (by decide) ?_
      refine ev_put fwX12_84 dX12_meanHeadway_22 dm8_0 en8_0 rfl rfl rfl (Nat.le_of_ble_eq_true rfl) ?_
      refine ev_aload_n (j := 0) dX12_meanHeadway_25 rfl rfl ?_
      refine ev_get frX12_84 dX12_meanHeadway_26 dm8_0 en8_0 rfl ?_
      refine ev_topI (b := 0) rfl ?_
      refine ev_if_le 34 dX12_meanHeadway_29 (by decide) ⟨by decide, by decide⟩ (fun _ => ?_) (fun c9 => absurd c9 (by decide))
      refine ev_aload_n (j := 0) dX12_meanHeadway_34 rfl rfl ?_
      refine ev_iload_n (j := 1) dX12_meanHeadway_35 rfl rfl ?_
      refine ev_iload_n (j := 2) dX12_meanHeadway_36 rfl rfl ?_
      refine ev_callVV (As := [iv v1, iv v2]) (st := []) mfX12_passages mlX12_211 dX12_meanHeadway_37 rfl dm8_0 en8_0 rfl rfl rfl (by decide) (by decide) (by decide) (Nat.le_of_ble_eq_true rfl) (fun _ _ z => z.elim) h20 (fun M21 h22 => ?_)
      refine ev_aload_n (j := 0) dX12_meanHeadway_40 rfl rfl ?_
      refine ev_aload_n (j := 0) dX12_meanHeadway_41 rfl rfl ?_
      refine ev_get frX12_201 dX12_meanHeadway_42 dm8_0 en8_0 rfl ?_
      refine ev_iconst dX12_meanHeadway_45 ?_
      obtain ⟨s24, h25⟩ := h22
      obtain ⟨h26, h27⟩ := h25
      refine ev_icmp_ge 53 dX12_meanHeadway_46 (by decide) s24 ⟨by decide, by decide⟩ (fun c28 => ?_) (fun c28 => ?_)
      · have h29 := h26 c28
        refine ev_iconst dX12_meanHeadway_53 ?_
        refine ev_put fwX12_84 dX12_meanHeadway_54 dm8_0 en8_0 rfl rfl rfl (Nat.le_of_ble_eq_true rfl) ?_
        refine ev_aload_n (j := 0) dX12_meanHeadway_57 rfl rfl ?_
        refine ev_get frX12_84 dX12_meanHeadway_58 dm8_0 en8_0 rfl ?_
        refine ev_topI (b := 0) rfl ?_
        refine ev_if_le 68 dX12_meanHeadway_61 (by decide) ⟨by decide, by decide⟩ (fun _ => ?_) (fun c9 => absurd c9 (by decide))
        refine ev_aload_n (j := 0) dX12_meanHeadway_68 rfl rfl ?_
        refine ev_get frX12_22 dX12_meanHeadway_69 dm8_0 en8_0 rfl ?_
        refine ev_aload_n (j := 0) dX12_meanHeadway_72 rfl rfl ?_
        refine ev_get frX12_201 dX12_meanHeadway_73 dm8_0 en8_0 rfl ?_
        refine ev_topI (b := M21 8 0 0 10) rfl ?_
        refine ev_iconst dX12_meanHeadway_76 ?_
        refine ev_isub dX12_meanHeadway_77 ?_
        obtain ⟨s30, s31, h32⟩ := h29
        refine ev_iald dX12_meanHeadway_78 dm8_5 ar8_5 (by decide) s30 s31 ?_
        refine ev_topI (b := M21 8 0 5 ((M21 8 0 0 10) - 1)) rfl ?_
        refine ev_aload_n (j := 0) dX12_meanHeadway_79 rfl rfl ?_
        refine ev_get frX12_22 dX12_meanHeadway_80 dm8_0 en8_0 rfl ?_
        refine ev_iconst dX12_meanHeadway_83 ?_
        refine ev_iald dX12_meanHeadway_84 dm8_5 ar8_5 (by decide) (by decide) (by decide) ?_
        refine ev_topI (b := M21 8 0 5 0) rfl ?_
        refine ev_isub dX12_meanHeadway_85 ?_
        refine ev_i2d dX12_meanHeadway_86 ?_
        refine ev_aload_n (j := 0) dX12_meanHeadway_87 rfl rfl ?_
        refine ev_get frX12_201 dX12_meanHeadway_88 dm8_0 en8_0 rfl ?_
        refine ev_topI (b := M21 8 0 0 10) rfl ?_
        refine ev_iconst dX12_meanHeadway_91 ?_
        refine ev_isub dX12_meanHeadway_92 ?_
        refine ev_i2d dX12_meanHeadway_93 ?_
        obtain ⟨s33, h34⟩ := h32
        refine ev_ddiv dX12_meanHeadway_94 s33 ?_
        exact ev_dret dX12_meanHeadway_95 (by decide) rfl h34
      · have h35 := h27 c28
        refine ev_iconst dX12_meanHeadway_49 ?_
        refine ev_goto 54 dX12_meanHeadway_50 (by decide) ?_
        refine ev_put fwX12_84 dX12_meanHeadway_54 dm8_0 en8_0 rfl rfl rfl (Nat.le_of_ble_eq_true rfl) ?_
        refine ev_aload_n (j := 0) dX12_meanHeadway_57 rfl rfl ?_
        refine ev_get frX12_84 dX12_meanHeadway_58 dm8_0 en8_0 rfl ?_
        refine ev_topI (b := 2) rfl ?_
        refine ev_if_le 68 dX12_meanHeadway_61 (by decide) ⟨by decide, by decide⟩ (fun c9 => absurd c9 (by decide)) (fun _ => ?_)
        refine ev_dconst0 dX12_meanHeadway_64 ?_
        refine ev_goto 95 dX12_meanHeadway_65 (by decide) ?_
        exact ev_dret dX12_meanHeadway_95 (by decide) rfl h35
def eX12_minutesOf (G : GT) (K : List Value → Mem → Prop) (X : String → Mem → Prop) (pc : Nat) (lv : List (Nat × Value)) (st : List Value) (M : Mem) : Prop := Ex G zX12_minutesOf 2 0 K X 0 pc lv st M
set_option maxRecDepth 20000 in
set_option maxHeartbeats 4000000 in
theorem bX12_minutesOf {G : GT} {K : List Value → Mem → Prop} {X : String → Mem → Prop} {M : Mem} {v1 v2 : Int} (h : eX12_minutesOf G K X 5 [(0, rr G 8 0 0), (1, iv v1), (2, iv v2), (3, iv 0), (4, iv 0)] [] M) : Call G 2 0 zX12_minutesOf [rr G 8 0 0, iv v1, iv v2] M K X := by
  refine call_intro (lv := [(0, rr G 8 0 0), (1, iv v1), (2, iv v2)]) (by decide) rfl (Nat.le_of_ble_eq_true rfl) rfl ?_
  refine ev_iconst dX12_minutesOf_0 ?_
  refine ev_istore_n dX12_minutesOf_1 rfl (by decide) rfl ?_
  refine ev_iconst dX12_minutesOf_2 ?_
  refine ev_istore dX12_minutesOf_3 (by decide) rfl ?_
  exact ev_sub [2, 3, 4, 1, 0] rfl h
set_option maxRecDepth 20000 in
set_option maxHeartbeats 4000000 in
theorem bX12_minutesOf_5 {G : GT} {K : List Value → Mem → Prop} {X : String → Mem → Prop} {M : Mem} {v1 v2 v3 v4 : Int} (h : 0 ≤ 171 + v1 ∧ 171 + v1 < 500 ∧ I32 v4 ∧ I32 (M 8 0 1 (171 + v1)) ∧ ((¬ v4 < (M 8 0 1 (171 + v1)) → K [iv v3] M) ∧ (v4 < (M 8 0 1 (171 + v1)) → Call G 0 0 zX12_dutyAt [rr G 8 0 0, iv v1, iv v4] M (kI (fun x14 M12 => I32 v2 ∧ ((¬ v2 = 0 → ((¬ 0 < v4 → eX12_minutesOf G K X 5 [(0, rr G 8 0 0), (1, iv v1), (2, iv v2), (3, iv (v3 + 0)), (4, iv (v4 + 1))] [] M12) ∧ (0 < v4 → Call G 0 0 zX12_departs [rr G 8 0 0, iv x14] M12 (kI (fun x28 M26 => Call G 0 0 zX12_dutyAt [rr G 8 0 0, iv v1, iv (v4 - 1)] M26 (kI (fun x31 M29 => Call G 1 0 zX12_arrives [rr G 8 0 0, iv x31] M29 (kI (fun x34 M32 => eX12_minutesOf G K X 5 [(0, rr G 8 0 0), (1, iv v1), (2, iv v2), (3, iv (v3 + (x28 - x34))), (4, iv (v4 + 1))] [] M32)) noX)) noX)) noX))) ∧ (v2 = 0 → Call G 1 0 zX12_arrives [rr G 8 0 0, iv x14] M12 (kI (fun x38 M36 => Call G 0 0 zX12_departs [rr G 8 0 0, iv x14] M36 (kI (fun x41 M39 => eX12_minutesOf G K X 5 [(0, rr G 8 0 0), (1, iv v1), (2, iv v2), (3, iv (v3 + (x38 - x41))), (4, iv (v4 + 1))] [] M39)) noX)) noX)))) noX))) : eX12_minutesOf G K X 5 [(0, rr G 8 0 0), (1, iv v1), (2, iv v2), (3, iv v3), (4, iv v4)] [] M := by
  show Ex G zX12_minutesOf 2 0 K X 0 5 [(0, rr G 8 0 0), (1, iv v1), (2, iv v2), (3, iv v3), (4, iv v4)] [] M
  refine ev_iload (j := 4) dX12_minutesOf_5 rfl ?_
  refine ev_aload_n (j := 0) dX12_minutesOf_7 rfl rfl ?_
  refine ev_get frX12_7 dX12_minutesOf_8 dm8_0 en8_0 rfl ?_
  refine ev_sipush dX12_minutesOf_11 (by decide) ?_
  refine ev_iload_n (j := 1) dX12_minutesOf_14 rfl rfl ?_
  refine ev_iadd dX12_minutesOf_15 ?_
  obtain ⟨s1, s2, h3⟩ := h
  refine ev_iald dX12_minutesOf_16 dm8_1 ar8_1 (by decide) s1 s2 ?_
  obtain ⟨s4, s5, h6⟩ := h3
  obtain ⟨h7, h8⟩ := h6
  refine ev_icmp_ge 87 dX12_minutesOf_17 (by decide) s4 s5 (fun c9 => ?_) (fun c9 => ?_)
  · have h10 := h7 c9
    refine ev_iload_n (j := 3) dX12_minutesOf_87 rfl rfl ?_
    exact ev_iret dX12_minutesOf_88 (by decide) rfl h10
  · have h11 := h8 c9
    refine ev_aload_n (j := 0) dX12_minutesOf_20 rfl rfl ?_
    refine ev_iload_n (j := 1) dX12_minutesOf_21 rfl rfl ?_
    refine ev_iload (j := 4) dX12_minutesOf_22 rfl ?_
    refine ev_callVI (As := [iv v1, iv v4]) (st := []) mfX12_dutyAt mlX12_126 dX12_minutesOf_24 rfl dm8_0 en8_0 rfl rfl rfl (by decide) (by decide) (by decide) (Nat.le_of_ble_eq_true rfl) (fun _ _ z => z.elim) h11 (fun x14 M12 h13 => ?_)
    refine ev_istore dX12_minutesOf_27 (by decide) rfl ?_
    refine ev_iload_n (j := 4) dX12_minutesOf_29 rfl rfl ?_
    refine ev_iload_n (j := 3) dX12_minutesOf_30 rfl rfl ?_
    obtain ⟨s15, h16⟩ := h13
    obtain ⟨h17, h18⟩ := h16
    refine ev_if_ne 50 dX12_minutesOf_31 (by decide) s15 (fun c19 => ?_) (fun c19 => ?_)
    · have h20 := h17 c19
      refine ev_iload (j := 5) dX12_minutesOf_50 rfl ?_
      obtain ⟨h21, h22⟩ := h20
      refine ev_if_le 78 dX12_minutesOf_52 (by decide) s4 (fun c23 => ?_) (fun c23 => ?_)
      · have h24 := h21 c23
        refine ev_iconst dX12_minutesOf_78 ?_
        refine ev_iadd dX12_minutesOf_79 ?_
        refine ev_istore_n dX12_minutesOf_80 rfl (by decide) rfl ?_
        refine ev_iinc (j := 5) dX12_minutesOf_81 rfl (by decide) rfl ?_
        refine ev_goto 5 dX12_minutesOf_84 (by decide) ?_
        exact ev_sub [3, 4, 5, 1, 0] rfl h24
      · have h25 := h22 c23
        refine ev_aload_n (j := 1) dX12_minutesOf_55 rfl rfl ?_
        refine ev_iload (j := 0) dX12_minutesOf_56 rfl ?_
        refine ev_callVI (As := [iv x14]) (st := [iv v3]) mfX12_departs mlX12_109 dX12_minutesOf_58 rfl dm8_0 en8_0 rfl rfl rfl (by decide) (by decide) (by decide) (Nat.le_of_ble_eq_true rfl) (fun _ _ z => z.elim) h25 (fun x28 M26 h27 => ?_)
        refine ev_aload_n (j := 1) dX12_minutesOf_61 rfl rfl ?_
        refine ev_aload_n (j := 1) dX12_minutesOf_62 rfl rfl ?_
        refine ev_iload_n (j := 2) dX12_minutesOf_63 rfl rfl ?_
        refine ev_iload (j := 5) dX12_minutesOf_64 rfl ?_
        refine ev_iconst dX12_minutesOf_66 ?_
        refine ev_isub dX12_minutesOf_67 ?_
        refine ev_callVI (As := [iv v1, iv (v4 - 1)]) (st := [rr G 8 0 0, iv x28, iv v3]) mfX12_dutyAt mlX12_126 dX12_minutesOf_68 rfl dm8_0 en8_0 rfl rfl rfl (by decide) (by decide) (by decide) (Nat.le_of_ble_eq_true rfl) (fun _ _ z => z.elim) h27 (fun x31 M29 h30 => ?_)
        refine ev_callVI (As := [iv x31]) (st := [iv x28, iv v3]) mfX12_arrives mlX12_123 dX12_minutesOf_71 rfl dm8_0 en8_0 rfl rfl rfl (by decide) (by decide) (by decide) (Nat.le_of_ble_eq_true rfl) (fun _ _ z => z.elim) h30 (fun x34 M32 h33 => ?_)
        refine ev_isub dX12_minutesOf_74 ?_
        refine ev_goto 79 dX12_minutesOf_75 (by decide) ?_
        refine ev_iadd dX12_minutesOf_79 ?_
        refine ev_istore_n dX12_minutesOf_80 rfl (by decide) rfl ?_
        refine ev_iinc (j := 5) dX12_minutesOf_81 rfl (by decide) rfl ?_
        refine ev_goto 5 dX12_minutesOf_84 (by decide) ?_
        exact ev_sub [3, 4, 5, 1, 0] rfl h33
    · have h35 := h18 c19
      refine ev_aload_n (j := 1) dX12_minutesOf_34 rfl rfl ?_
      refine ev_iload (j := 0) dX12_minutesOf_35 rfl ?_
      refine ev_callVI (As := [iv x14]) (st := [iv v3]) mfX12_arrives mlX12_123 dX12_minutesOf_37 rfl dm8_0 en8_0 rfl rfl rfl (by decide) (by decide) (by decide) (Nat.le_of_ble_eq_true rfl) (fun _ _ z => z.elim) h35 (fun x38 M36 h37 => ?_)
      refine ev_aload_n (j := 1) dX12_minutesOf_40 rfl rfl ?_
      refine ev_iload (j := 0) dX12_minutesOf_41 rfl ?_
      refine ev_callVI (As := [iv x14]) (st := [iv x38, iv v3]) mfX12_departs mlX12_109 dX12_minutesOf_43 rfl dm8_0 en8_0 rfl rfl rfl (by decide) (by decide) (by decide) (Nat.le_of_ble_eq_true rfl) (fun _ _ z => z.elim) h37 (fun x41 M39 h40 => ?_)
      refine ev_isub dX12_minutesOf_46 ?_
      refine ev_goto 79 dX12_minutesOf_47 (by decide) ?_
      refine ev_iadd dX12_minutesOf_79 ?_
      refine ev_istore_n dX12_minutesOf_80 rfl (by decide) rfl ?_
      refine ev_iinc (j := 5) dX12_minutesOf_81 rfl (by decide) rfl ?_
      refine ev_goto 5 dX12_minutesOf_84 (by decide) ?_
      exact ev_sub [3, 4, 5, 1, 0] rfl h40
def eX12_nextTrip (G : GT) (K : List Value → Mem → Prop) (X : String → Mem → Prop) (pc : Nat) (lv : List (Nat × Value)) (st : List Value) (M : Mem) : Prop := Ex G zX12_nextTrip 3 0 K X 0 pc lv st M
set_option maxRecDepth 20000 in
set_option maxHeartbeats 4000000 in
theorem bX12_nextTrip {G : GT} {K : List Value → Mem → Prop} {X : String → Mem → Prop} {M : Mem} {v1 : Int} (h : Call G 1 0 zX12_isTrip [rr G 8 0 0, iv v1] M (kI (fun x3 M1 => I32 x3 ∧ ((x3 = 0 → K [iv 0] (wr M1 8 0 0 7 1)) ∧ (¬ x3 = 0 → eX12_nextTrip G K X 30 [(0, rr G 8 0 0), (1, iv v1), (2, iv (-1)), (3, iv 0)] [] (wr M1 8 0 0 7 0))))) noX) : Call G 3 0 zX12_nextTrip [rr G 8 0 0, iv v1] M K X := by
  refine call_intro (lv := [(0, rr G 8 0 0), (1, iv v1)]) (by decide) rfl (Nat.le_of_ble_eq_true rfl) rfl ?_
  refine ev_aload_n (j := 0) dX12_nextTrip_0 rfl rfl ?_
  refine ev_aload_n (j := 0) dX12_nextTrip_1 rfl rfl ?_
  refine ev_iload_n (j := 1) dX12_nextTrip_2 rfl rfl ?_
  refine ev_callVI (As := [iv v1]) (st := [rr G 8 0 0]) mfX12_isTrip mlX12_169 dX12_nextTrip_3 rfl dm8_0 en8_0 rfl rfl rfl (by decide) (by decide) (by decide) (Nat.le_of_ble_eq_true rfl) (fun _ _ z => z.elim) h (fun x3 M1 h2 => ?_)
  obtain ⟨s4, h5⟩ := h2
  obtain ⟨h6, h7⟩ := h5
  refine ev_if_eq 13 dX12_nextTrip_6 (by decide) s4 (fun c8 => ?_) (fun c8 => ?_)
  · have h9 := h6 c8
    refine ev_iconst dX12_nextTrip_13 ?_
    refine ev_put fwX12_84 dX12_nextTrip_14 dm8_0 en8_0 rfl rfl rfl (Nat.le_of_ble_eq_true rfl) ?_
    refine ev_aload_n (j := 0) dX12_nextTrip_17 rfl rfl ?_
    refine ev_get frX12_84 dX12_nextTrip_18 dm8_0 en8_0 rfl ?_
    refine ev_topI (b := 1) rfl ?_
    refine ev_if_le 26 dX12_nextTrip_21 (by decide) ⟨by decide, by decide⟩ (fun c9 => absurd c9 (by decide)) (fun _ => ?_)
    refine ev_iconst dX12_nextTrip_24 ?_
    exact ev_iret dX12_nextTrip_25 (by decide) rfl h9
  · have h10 := h7 c8
    refine ev_iconst dX12_nextTrip_9 ?_
    refine ev_goto 14 dX12_nextTrip_10 (by decide) ?_
    refine ev_put fwX12_84 dX12_nextTrip_14 dm8_0 en8_0 rfl rfl rfl (Nat.le_of_ble_eq_true rfl) ?_
    refine ev_aload_n (j := 0) dX12_nextTrip_17 rfl rfl ?_
    refine ev_get frX12_84 dX12_nextTrip_18 dm8_0 en8_0 rfl ?_
    refine ev_topI (b := 0) rfl ?_
    refine ev_if_le 26 dX12_nextTrip_21 (by decide) ⟨by decide, by decide⟩ (fun _ => ?_) (fun c9 => absurd c9 (by decide))
    refine ev_iconst dX12_nextTrip_26 ?_
    refine ev_istore_n dX12_nextTrip_27 rfl (by decide) rfl ?_
    refine ev_iconst dX12_nextTrip_28 ?_
    refine ev_istore_n dX12_nextTrip_29 rfl (by decide) rfl ?_
    exact ev_sub [2, 3, 1, 0] rfl h10
set_option maxRecDepth 20000 in
set_option maxHeartbeats 4000000 in
theorem bX12_nextTrip_30 {G : GT} {K : List Value → Mem → Prop} {X : String → Mem → Prop} {M : Mem} {v1 v2 v3 : Int} (h : I32 v3 ∧ I32 (M 8 0 1 37) ∧ ((¬ v3 < (M 8 0 1 37) → I32 v2 ∧ ((¬ v2 < 0 → K [iv v2] M) ∧ (v2 < 0 → Call G 0 0 zX12_fails [rr G 8 0 0, iv 2] M (kI (fun x17 M15 => K [iv x17] M15)) noX))) ∧ (v3 < (M 8 0 1 37) → Call G 0 0 zX12_isActive [rr G 8 0 0, iv v3] M (kI (fun x21 M19 => I32 x21 ∧ ((x21 = 0 → eX12_nextTrip G K X 30 [(0, rr G 8 0 0), (1, iv v1), (2, iv v2), (3, iv (v3 + 1))] [] M19) ∧ (¬ x21 = 0 → Call G 2 0 zX12_follows [rr G 8 0 0, iv v1, iv v3] M19 (kI (fun x31 M29 => I32 x31 ∧ ((x31 = 0 → eX12_nextTrip G K X 30 [(0, rr G 8 0 0), (1, iv v1), (2, iv v2), (3, iv (v3 + 1))] [] M29) ∧ (¬ x31 = 0 → I32 v2 ∧ ((v2 < 0 → eX12_nextTrip G K X 30 [(0, rr G 8 0 0), (1, iv v1), (2, iv v3), (3, iv (v3 + 1))] [] M29) ∧ (¬ v2 < 0 → Call G 0 0 zX12_departs [rr G 8 0 0, iv v3] M29 (kI (fun x48 M46 => Call G 0 0 zX12_departs [rr G 8 0 0, iv v2] M46 (kI (fun x51 M49 => I32 x48 ∧ I32 x51 ∧ ((¬ x48 < x51 → eX12_nextTrip G K X 30 [(0, rr G 8 0 0), (1, iv v1), (2, iv v2), (3, iv (v3 + 1))] [] M49) ∧ (x48 < x51 → eX12_nextTrip G K X 30 [(0, rr G 8 0 0), (1, iv v1), (2, iv v3), (3, iv (v3 + 1))] [] M49)))) noX)) noX)))))) noX)))) noX))) : eX12_nextTrip G K X 30 [(0, rr G 8 0 0), (1, iv v1), (2, iv v2), (3, iv v3)] [] M := by
  show Ex G zX12_nextTrip 3 0 K X 0 30 [(0, rr G 8 0 0), (1, iv v1), (2, iv v2), (3, iv v3)] [] M
  refine ev_iload_n (j := 3) dX12_nextTrip_30 rfl rfl ?_
  refine ev_aload_n (j := 0) dX12_nextTrip_31 rfl rfl ?_
  refine ev_get frX12_7 dX12_nextTrip_32 dm8_0 en8_0 rfl ?_
  refine ev_bipush dX12_nextTrip_35 (by decide) ?_
  refine ev_iald dX12_nextTrip_37 dm8_1 ar8_1 (by decide) (by decide) (by decide) ?_
  obtain ⟨s1, s2, h3⟩ := h
  obtain ⟨h4, h5⟩ := h3
  refine ev_icmp_ge 99 dX12_nextTrip_38 (by decide) s1 s2 (fun c6 => ?_) (fun c6 => ?_)
  · have h7 := h4 c6
    refine ev_iload_n (j := 2) dX12_nextTrip_99 rfl rfl ?_
    obtain ⟨s8, h9⟩ := h7
    obtain ⟨h10, h11⟩ := h9
    refine ev_if_ge 111 dX12_nextTrip_100 (by decide) s8 (fun c12 => ?_) (fun c12 => ?_)
    · have h13 := h10 c12
      refine ev_iload_n (j := 2) dX12_nextTrip_111 rfl rfl ?_
      exact ev_iret dX12_nextTrip_112 (by decide) rfl h13
    · have h14 := h11 c12
      refine ev_aload_n (j := 0) dX12_nextTrip_103 rfl rfl ?_
      refine ev_iconst dX12_nextTrip_104 ?_
      refine ev_callVI (As := [iv 2]) (st := []) mfX12_fails mlX12_146 dX12_nextTrip_105 rfl dm8_0 en8_0 rfl rfl rfl (by decide) (by decide) (by decide) (Nat.le_of_ble_eq_true rfl) (fun _ _ z => z.elim) h14 (fun x17 M15 h16 => ?_)
      refine ev_goto 112 dX12_nextTrip_108 (by decide) ?_
      exact ev_iret dX12_nextTrip_112 (by decide) rfl h16
  · have h18 := h5 c6
    refine ev_aload_n (j := 0) dX12_nextTrip_41 rfl rfl ?_
    refine ev_iload_n (j := 3) dX12_nextTrip_42 rfl rfl ?_
    refine ev_callVI (As := [iv v3]) (st := []) mfX12_isActive mlX12_149 dX12_nextTrip_43 rfl dm8_0 en8_0 rfl rfl rfl (by decide) (by decide) (by decide) (Nat.le_of_ble_eq_true rfl) (fun _ _ z => z.elim) h18 (fun x21 M19 h20 => ?_)
    obtain ⟨s22, h23⟩ := h20
    obtain ⟨h24, h25⟩ := h23
    refine ev_if_eq 79 dX12_nextTrip_46 (by decide) s22 (fun c26 => ?_) (fun c26 => ?_)
    · have h27 := h24 c26
      refine ev_iconst dX12_nextTrip_79 ?_
      refine ev_istore dX12_nextTrip_80 (by decide) rfl ?_
      refine ev_iload (j := 0) dX12_nextTrip_82 rfl ?_
      refine ev_if_eq 91 dX12_nextTrip_84 (by decide) ⟨by decide, by decide⟩ (fun _ => ?_) (fun c9 => absurd c9 (by decide))
      refine ev_iload_n (j := 3) dX12_nextTrip_91 rfl rfl ?_
      refine ev_istore_n dX12_nextTrip_92 rfl (by decide) rfl ?_
      refine ev_iinc (j := 4) dX12_nextTrip_93 rfl (by decide) rfl ?_
      refine ev_goto 30 dX12_nextTrip_96 (by decide) ?_
      exact ev_sub [3, 4, 1, 0] rfl h27
    · have h28 := h25 c26
      refine ev_aload_n (j := 0) dX12_nextTrip_49 rfl rfl ?_
      refine ev_iload_n (j := 1) dX12_nextTrip_50 rfl rfl ?_
      refine ev_iload_n (j := 3) dX12_nextTrip_51 rfl rfl ?_
      refine ev_callVI (As := [iv v1, iv v3]) (st := []) mfX12_follows mlX12_132 dX12_nextTrip_52 rfl dm8_0 en8_0 rfl rfl rfl (by decide) (by decide) (by decide) (Nat.le_of_ble_eq_true rfl) (fun _ _ z => z.elim) h28 (fun x31 M29 h30 => ?_)
      obtain ⟨s32, h33⟩ := h30
      obtain ⟨h34, h35⟩ := h33
      refine ev_if_eq 79 dX12_nextTrip_55 (by decide) s32 (fun c36 => ?_) (fun c36 => ?_)
      · have h37 := h34 c36
        refine ev_iconst dX12_nextTrip_79 ?_
        refine ev_istore dX12_nextTrip_80 (by decide) rfl ?_
        refine ev_iload (j := 0) dX12_nextTrip_82 rfl ?_
        refine ev_if_eq 91 dX12_nextTrip_84 (by decide) ⟨by decide, by decide⟩ (fun _ => ?_) (fun c9 => absurd c9 (by decide))
        refine ev_iload_n (j := 3) dX12_nextTrip_91 rfl rfl ?_
        refine ev_istore_n dX12_nextTrip_92 rfl (by decide) rfl ?_
        refine ev_iinc (j := 4) dX12_nextTrip_93 rfl (by decide) rfl ?_
        refine ev_goto 30 dX12_nextTrip_96 (by decide) ?_
        exact ev_sub [3, 4, 1, 0] rfl h37
      · have h38 := h35 c36
        refine ev_iload_n (j := 2) dX12_nextTrip_58 rfl rfl ?_
        obtain ⟨s39, h40⟩ := h38
        obtain ⟨h41, h42⟩ := h40
        refine ev_if_lt 75 dX12_nextTrip_59 (by decide) s39 (fun c43 => ?_) (fun c43 => ?_)
        · have h44 := h41 c43
          refine ev_iconst dX12_nextTrip_75 ?_
          refine ev_goto 80 dX12_nextTrip_76 (by decide) ?_
          refine ev_istore dX12_nextTrip_80 (by decide) rfl ?_
          refine ev_iload (j := 0) dX12_nextTrip_82 rfl ?_
          refine ev_if_eq 91 dX12_nextTrip_84 (by decide) ⟨by decide, by decide⟩ (fun c9 => absurd c9 (by decide)) (fun _ => ?_)
          refine ev_iload_n (j := 4) dX12_nextTrip_87 rfl rfl ?_
          refine ev_goto 92 dX12_nextTrip_88 (by decide) ?_
          refine ev_istore_n dX12_nextTrip_92 rfl (by decide) rfl ?_
          refine ev_iinc (j := 4) dX12_nextTrip_93 rfl (by decide) rfl ?_
          refine ev_goto 30 dX12_nextTrip_96 (by decide) ?_
          exact ev_sub [3, 4, 1, 0] rfl h44
        · have h45 := h42 c43
          refine ev_aload_n (j := 0) dX12_nextTrip_62 rfl rfl ?_
          refine ev_iload_n (j := 3) dX12_nextTrip_63 rfl rfl ?_
          refine ev_callVI (As := [iv v3]) (st := []) mfX12_departs mlX12_109 dX12_nextTrip_64 rfl dm8_0 en8_0 rfl rfl rfl (by decide) (by decide) (by decide) (Nat.le_of_ble_eq_true rfl) (fun _ _ z => z.elim) h45 (fun x48 M46 h47 => ?_)
          refine ev_aload_n (j := 0) dX12_nextTrip_67 rfl rfl ?_
          refine ev_iload_n (j := 2) dX12_nextTrip_68 rfl rfl ?_
          refine ev_callVI (As := [iv v2]) (st := [iv x48]) mfX12_departs mlX12_109 dX12_nextTrip_69 rfl dm8_0 en8_0 rfl rfl rfl (by decide) (by decide) (by decide) (Nat.le_of_ble_eq_true rfl) (fun _ _ z => z.elim) h47 (fun x51 M49 h50 => ?_)
          obtain ⟨s52, s53, h54⟩ := h50
          obtain ⟨h55, h56⟩ := h54
          refine ev_icmp_ge 79 dX12_nextTrip_72 (by decide) s52 s53 (fun c57 => ?_) (fun c57 => ?_)
          · have h58 := h55 c57
            refine ev_iconst dX12_nextTrip_79 ?_
            refine ev_istore dX12_nextTrip_80 (by decide) rfl ?_
            refine ev_iload (j := 0) dX12_nextTrip_82 rfl ?_
            refine ev_if_eq 91 dX12_nextTrip_84 (by decide) ⟨by decide, by decide⟩ (fun _ => ?_) (fun c9 => absurd c9 (by decide))
            refine ev_iload_n (j := 3) dX12_nextTrip_91 rfl rfl ?_
            refine ev_istore_n dX12_nextTrip_92 rfl (by decide) rfl ?_
            refine ev_iinc (j := 4) dX12_nextTrip_93 rfl (by decide) rfl ?_
            refine ev_goto 30 dX12_nextTrip_96 (by decide) ?_
            exact ev_sub [3, 4, 1, 0] rfl h58
          · have h59 := h56 c57
            refine ev_iconst dX12_nextTrip_75 ?_
            refine ev_goto 80 dX12_nextTrip_76 (by decide) ?_
            refine ev_istore dX12_nextTrip_80 (by decide) rfl ?_
            refine ev_iload (j := 0) dX12_nextTrip_82 rfl ?_
            refine ev_if_eq 91 dX12_nextTrip_84 (by decide) ⟨by decide, by decide⟩ (fun c9 => absurd c9 (by decide)) (fun _ => ?_)
            refine ev_iload_n (j := 4) dX12_nextTrip_87 rfl rfl ?_
            refine ev_goto 92 dX12_nextTrip_88 (by decide) ?_
            refine ev_istore_n dX12_nextTrip_92 rfl (by decide) rfl ?_
            refine ev_iinc (j := 4) dX12_nextTrip_93 rfl (by decide) rfl ?_
            refine ev_goto 30 dX12_nextTrip_96 (by decide) ?_
            exact ev_sub [3, 4, 1, 0] rfl h59
def eX12_number (G : GT) (K : List Value → Mem → Prop) (X : String → Mem → Prop) (pc : Nat) (lv : List (Nat × Value)) (st : List Value) (M : Mem) : Prop := Ex G zX12_number 1 0 K X 0 pc lv st M
set_option maxRecDepth 20000 in
set_option maxHeartbeats 4000000 in
theorem bX12_number {G : GT} {K : List Value → Mem → Prop} {X : String → Mem → Prop} {M : Mem} {v1 : Int} (h : Call G 0 0 zX12_here [rr G 8 0 0] M (kI (fun x3 M1 => Call G 0 0 zX12_in [iv x3, iv 48, iv 57] M1 (kI (fun x6 M4 => I32 x6 ∧ ((¬ x6 = 0 → Call G 0 0 zX12_here [rr G 8 0 0] M4 (kI (fun x15 M13 => ∀ M16 : Mem, M16 = wr (wr M13 8 0 0 35 (x15 - 48)) 8 0 0 34 ((M13 8 0 0 34) + 1) → eX12_number G K X 37 [(0, rr G 8 0 0), (1, iv v1)] [] M16)) noX) ∧ (x6 = 0 → K [iv 0] M4)))) noX)) noX) : Call G 1 0 zX12_number [rr G 8 0 0, iv v1] M K X := by
  refine call_intro (lv := [(0, rr G 8 0 0), (1, iv v1)]) (by decide) rfl (Nat.le_of_ble_eq_true rfl) rfl ?_
  refine ev_aload_n (j := 0) dX12_number_0 rfl rfl ?_
  refine ev_callVI (As := []) (st := []) mfX12_here mlX12_335 dX12_number_1 rfl dm8_0 en8_0 rfl rfl rfl (by decide) (by decide) (by decide) (Nat.le_of_ble_eq_true rfl) (fun _ _ z => z.elim) h (fun x3 M1 h2 => ?_)
  refine ev_bipush dX12_number_4 (by decide) ?_
  refine ev_bipush dX12_number_6 (by decide) ?_
  refine ev_callSI (As := [iv x3, iv 48, iv 57]) (st := []) mfX12_in mlX12_87 dX12_number_8 rfl rfl (by decide) (by decide) (by decide) (Nat.le_of_ble_eq_true rfl) (fun _ _ z => z.elim) h2 (fun x6 M4 h5 => ?_)
  obtain ⟨s7, h8⟩ := h5
  obtain ⟨h9, h10⟩ := h8
  refine ev_if_ne 16 dX12_number_11 (by decide) s7 (fun c11 => ?_) (fun c11 => ?_)
  · have h12 := h9 c11
    refine ev_aload_n (j := 0) dX12_number_16 rfl rfl ?_
    refine ev_aload_n (j := 0) dX12_number_17 rfl rfl ?_
    refine ev_callVI (As := []) (st := [rr G 8 0 0]) mfX12_here mlX12_335 dX12_number_18 rfl dm8_0 en8_0 rfl rfl rfl (by decide) (by decide) (by decide) (Nat.le_of_ble_eq_true rfl) (fun _ _ z => z.elim) h12 (fun x15 M13 h14 => ?_)
    refine ev_bipush dX12_number_21 (by decide) ?_
    refine ev_isub dX12_number_23 ?_
    refine ev_put fwX12_338 dX12_number_24 dm8_0 en8_0 rfl rfl rfl (Nat.le_of_ble_eq_true rfl) ?_
    refine ev_aload_n (j := 0) dX12_number_27 rfl rfl ?_
    refine ev_dup dX12_number_28 rfl ?_
    refine ev_get frX12_332 dX12_number_29 dm8_0 en8_0 rfl ?_
    refine ev_topI (b := M13 8 0 0 34) rfl ?_
    refine ev_iconst dX12_number_32 ?_
    refine ev_iadd dX12_number_33 ?_
    refine ev_put fwX12_332 dX12_number_34 dm8_0 en8_0 rfl rfl rfl (Nat.le_of_ble_eq_true rfl) ?_
    obtain ⟨M16, e18⟩ : ∃ M16 : Mem, M16 = wr (wr M13 8 0 0 35 (x15 - 48)) 8 0 0 34 ((M13 8 0 0 34) + 1) := ⟨_, rfl⟩
    have h17 := h14 _ e18
    refine ev_mem e18 ?_
    exact ev_sub [0, 1] rfl h17
  · have h19 := h10 c11
    refine ev_iconst dX12_number_14 ?_
    exact ev_zret dX12_number_15 (by decide) rfl (by decide) h19
set_option maxRecDepth 20000 in
set_option maxHeartbeats 4000000 in
theorem bX12_number_37 {G : GT} {K : List Value → Mem → Prop} {X : String → Mem → Prop} {M : Mem} {v1 : Int} (h : I32 (M 8 0 0 35) ∧ ((¬ 0 < (M 8 0 0 35) → K [iv 1] M) ∧ (0 < (M 8 0 0 35) → Call G 0 0 zX12_here [rr G 8 0 0] M (kI (fun x10 M8 => Call G 0 0 zX12_in [iv x10, iv 48, iv 57] M8 (kI (fun x13 M11 => I32 x13 ∧ ((x13 = 0 → K [iv 1] M11) ∧ (¬ x13 = 0 → Call G 0 0 zX12_here [rr G 8 0 0] M11 (kI (fun x23 M21 => I32 (((10 * (M11 8 0 0 35)) + x23) - 48) ∧ I32 v1 ∧ ((v1 < (((10 * (M11 8 0 0 35)) + x23) - 48) → K [iv 1] M21) ∧ (¬ v1 < (((10 * (M11 8 0 0 35)) + x23) - 48) → Call G 0 0 zX12_here [rr G 8 0 0] M21 (kI (fun x34 M32 => ∀ M35 : Mem, M35 = wr (wr M32 8 0 0 35 (((10 * (M21 8 0 0 35)) + x34) - 48)) 8 0 0 34 ((M32 8 0 0 34) + 1) → eX12_number G K X 37 [(0, rr G 8 0 0), (1, iv v1)] [] M35)) noX)))) noX)))) noX)) noX))) : eX12_number G K X 37 [(0, rr G 8 0 0), (1, iv v1)] [] M := by
  show Ex G zX12_number 1 0 K X 0 37 [(0, rr G 8 0 0), (1, iv v1)] [] M
  refine ev_aload_n (j := 0) dX12_number_37 rfl rfl ?_
  refine ev_get frX12_338 dX12_number_38 dm8_0 en8_0 rfl ?_
  obtain ⟨s1, h2⟩ := h
  obtain ⟨h3, h4⟩ := h2
  refine ev_if_le 109 dX12_number_41 (by decide) s1 (fun c5 => ?_) (fun c5 => ?_)
  · have h6 := h3 c5
    refine ev_iconst dX12_number_109 ?_
    exact ev_zret dX12_number_110 (by decide) rfl (by decide) h6
  · have h7 := h4 c5
    refine ev_aload_n (j := 0) dX12_number_44 rfl rfl ?_
    refine ev_callVI (As := []) (st := []) mfX12_here mlX12_335 dX12_number_45 rfl dm8_0 en8_0 rfl rfl rfl (by decide) (by decide) (by decide) (Nat.le_of_ble_eq_true rfl) (fun _ _ z => z.elim) h7 (fun x10 M8 h9 => ?_)
    refine ev_bipush dX12_number_48 (by decide) ?_
    refine ev_bipush dX12_number_50 (by decide) ?_
    refine ev_callSI (As := [iv x10, iv 48, iv 57]) (st := []) mfX12_in mlX12_87 dX12_number_52 rfl rfl (by decide) (by decide) (by decide) (Nat.le_of_ble_eq_true rfl) (fun _ _ z => z.elim) h9 (fun x13 M11 h12 => ?_)
    obtain ⟨s14, h15⟩ := h12
    obtain ⟨h16, h17⟩ := h15
    refine ev_if_eq 109 dX12_number_55 (by decide) s14 (fun c18 => ?_) (fun c18 => ?_)
    · have h19 := h16 c18
      refine ev_iconst dX12_number_109 ?_
      exact ev_zret dX12_number_110 (by decide) rfl (by decide) h19
    · have h20 := h17 c18
      refine ev_bipush dX12_number_58 (by decide) ?_
      refine ev_aload_n (j := 0) dX12_number_60 rfl rfl ?_
      refine ev_get frX12_338 dX12_number_61 dm8_0 en8_0 rfl ?_
      refine ev_imul dX12_number_64 ?_
      refine ev_aload_n (j := 0) dX12_number_65 rfl rfl ?_
      refine ev_callVI (As := []) (st := [iv (10 * (M11 8 0 0 35))]) mfX12_here mlX12_335 dX12_number_66 rfl dm8_0 en8_0 rfl rfl rfl (by decide) (by decide) (by decide) (Nat.le_of_ble_eq_true rfl) (fun _ _ z => z.elim) h20 (fun x23 M21 h22 => ?_)
      refine ev_iadd dX12_number_69 ?_
      refine ev_bipush dX12_number_70 (by decide) ?_
      refine ev_isub dX12_number_72 ?_
      refine ev_iload_n (j := 1) dX12_number_73 rfl rfl ?_
      obtain ⟨s24, s25, h26⟩ := h22
      obtain ⟨h27, h28⟩ := h26
      refine ev_icmp_gt 109 dX12_number_74 (by decide) s24 s25 (fun c29 => ?_) (fun c29 => ?_)
      · have h30 := h27 c29
        refine ev_iconst dX12_number_109 ?_
        exact ev_zret dX12_number_110 (by decide) rfl (by decide) h30
      · have h31 := h28 c29
        refine ev_aload_n (j := 0) dX12_number_77 rfl rfl ?_
        refine ev_bipush dX12_number_78 (by decide) ?_
        refine ev_aload_n (j := 0) dX12_number_80 rfl rfl ?_
        refine ev_get frX12_338 dX12_number_81 dm8_0 en8_0 rfl ?_
        refine ev_imul dX12_number_84 ?_
        refine ev_aload_n (j := 0) dX12_number_85 rfl rfl ?_
        refine ev_callVI (As := []) (st := [iv (10 * (M21 8 0 0 35)), rr G 8 0 0]) mfX12_here mlX12_335 dX12_number_86 rfl dm8_0 en8_0 rfl rfl rfl (by decide) (by decide) (by decide) (Nat.le_of_ble_eq_true rfl) (fun _ _ z => z.elim) h31 (fun x34 M32 h33 => ?_)
        refine ev_iadd dX12_number_89 ?_
        refine ev_bipush dX12_number_90 (by decide) ?_
        refine ev_isub dX12_number_92 ?_
        refine ev_put fwX12_338 dX12_number_93 dm8_0 en8_0 rfl rfl rfl (Nat.le_of_ble_eq_true rfl) ?_
        refine ev_aload_n (j := 0) dX12_number_96 rfl rfl ?_
        refine ev_dup dX12_number_97 rfl ?_
        refine ev_get frX12_332 dX12_number_98 dm8_0 en8_0 rfl ?_
        refine ev_topI (b := M32 8 0 0 34) rfl ?_
        refine ev_iconst dX12_number_101 ?_
        refine ev_iadd dX12_number_102 ?_
        refine ev_put fwX12_332 dX12_number_103 dm8_0 en8_0 rfl rfl rfl (Nat.le_of_ble_eq_true rfl) ?_
        obtain ⟨M35, e37⟩ : ∃ M35 : Mem, M35 = wr (wr M32 8 0 0 35 (((10 * (M21 8 0 0 35)) + x34) - 48)) 8 0 0 34 ((M32 8 0 0 34) + 1) := ⟨_, rfl⟩
        have h36 := h33 _ e37
        refine ev_mem e37 ?_
        refine ev_goto 37 dX12_number_106 (by decide) ?_
        exact ev_sub [0, 1] rfl h36
def eX12_onDuty (G : GT) (K : List Value → Mem → Prop) (X : String → Mem → Prop) (pc : Nat) (lv : List (Nat × Value)) (st : List Value) (M : Mem) : Prop := Ex G zX12_onDuty 0 0 K X 0 pc lv st M
set_option maxRecDepth 20000 in
set_option maxHeartbeats 4000000 in
theorem bX12_onDuty {G : GT} {K : List Value → Mem → Prop} {X : String → Mem → Prop} {M : Mem} (h : eX12_onDuty G K X 4 [(0, rr G 8 0 0), (1, iv 0), (2, iv 0)] [] M) : Call G 0 0 zX12_onDuty [rr G 8 0 0] M K X := by
  refine call_intro (lv := [(0, rr G 8 0 0)]) (by decide) rfl (Nat.le_of_ble_eq_true rfl) rfl ?_
  refine ev_iconst dX12_onDuty_0 ?_
  refine ev_istore_n dX12_onDuty_1 rfl (by decide) rfl ?_
  refine ev_iconst dX12_onDuty_2 ?_
  refine ev_istore_n dX12_onDuty_3 rfl (by decide) rfl ?_
  exact ev_sub [2, 1, 0] rfl h
set_option maxRecDepth 20000 in
set_option maxHeartbeats 4000000 in
theorem bX12_onDuty_4 {G : GT} {K : List Value → Mem → Prop} {X : String → Mem → Prop} {M : Mem} {v1 v2 : Int} (h : I32 v2 ∧ I32 (M 8 0 1 160) ∧ ((¬ v2 < (M 8 0 1 160) → K [iv v1] M) ∧ (v2 < (M 8 0 1 160) → 0 ≤ 171 + v2 ∧ 171 + v2 < 500 ∧ I32 (M 8 0 1 (171 + v2)) ∧ ((¬ 0 < (M 8 0 1 (171 + v2)) → eX12_onDuty G K X 4 [(0, rr G 8 0 0), (1, iv (v1 + 0)), (2, iv (v2 + 1))] [] M) ∧ (0 < (M 8 0 1 (171 + v2)) → eX12_onDuty G K X 4 [(0, rr G 8 0 0), (1, iv (v1 + 1)), (2, iv (v2 + 1))] [] M))))) : eX12_onDuty G K X 4 [(0, rr G 8 0 0), (1, iv v1), (2, iv v2)] [] M := by
  show Ex G zX12_onDuty 0 0 K X 0 4 [(0, rr G 8 0 0), (1, iv v1), (2, iv v2)] [] M
  refine ev_iload_n (j := 2) dX12_onDuty_4 rfl rfl ?_
  refine ev_aload_n (j := 0) dX12_onDuty_5 rfl rfl ?_
  refine ev_get frX12_7 dX12_onDuty_6 dm8_0 en8_0 rfl ?_
  refine ev_sipush dX12_onDuty_9 (by decide) ?_
  refine ev_iald dX12_onDuty_12 dm8_1 ar8_1 (by decide) (by decide) (by decide) ?_
  obtain ⟨s1, s2, h3⟩ := h
  obtain ⟨h4, h5⟩ := h3
  refine ev_icmp_ge 43 dX12_onDuty_13 (by decide) s1 s2 (fun c6 => ?_) (fun c6 => ?_)
  · have h7 := h4 c6
    refine ev_iload_n (j := 1) dX12_onDuty_43 rfl rfl ?_
    exact ev_iret dX12_onDuty_44 (by decide) rfl h7
  · have h8 := h5 c6
    refine ev_iload_n (j := 1) dX12_onDuty_16 rfl rfl ?_
    refine ev_aload_n (j := 0) dX12_onDuty_17 rfl rfl ?_
    refine ev_get frX12_7 dX12_onDuty_18 dm8_0 en8_0 rfl ?_
    refine ev_sipush dX12_onDuty_21 (by decide) ?_
    refine ev_iload_n (j := 2) dX12_onDuty_24 rfl rfl ?_
    refine ev_iadd dX12_onDuty_25 ?_
    obtain ⟨s9, s10, h11⟩ := h8
    refine ev_iald dX12_onDuty_26 dm8_1 ar8_1 (by decide) s9 s10 ?_
    obtain ⟨s12, h13⟩ := h11
    obtain ⟨h14, h15⟩ := h13
    refine ev_if_le 34 dX12_onDuty_27 (by decide) s12 (fun c16 => ?_) (fun c16 => ?_)
    · have h17 := h14 c16
      refine ev_iconst dX12_onDuty_34 ?_
      refine ev_iadd dX12_onDuty_35 ?_
      refine ev_istore_n dX12_onDuty_36 rfl (by decide) rfl ?_
      refine ev_iinc (j := 2) dX12_onDuty_37 rfl (by decide) rfl ?_
      refine ev_goto 4 dX12_onDuty_40 (by decide) ?_
      exact ev_sub [2, 1, 0] rfl h17
    · have h18 := h15 c16
      refine ev_iconst dX12_onDuty_30 ?_
      refine ev_goto 35 dX12_onDuty_31 (by decide) ?_
      refine ev_iadd dX12_onDuty_35 ?_
      refine ev_istore_n dX12_onDuty_36 rfl (by decide) rfl ?_
      refine ev_iinc (j := 2) dX12_onDuty_37 rfl (by decide) rfl ?_
      refine ev_goto 4 dX12_onDuty_40 (by decide) ?_
      exact ev_sub [2, 1, 0] rfl h18
def eX12_orders (G : GT) (K : List Value → Mem → Prop) (X : String → Mem → Prop) (pc : Nat) (lv : List (Nat × Value)) (st : List Value) (M : Mem) : Prop := Ex G zX12_orders 1 0 K X 0 pc lv st M
set_option maxRecDepth 20000 in
set_option maxHeartbeats 4000000 in
theorem bX12_orders {G : GT} {K : List Value → Mem → Prop} {X : String → Mem → Prop} {M : Mem} (h : eX12_orders G K X 7 [(0, rr G 8 0 0), (1, iv 0)] [] (wr M 8 0 0 10 0)) : Call G 1 0 zX12_orders [rr G 8 0 0] M K X := by
  refine call_intro (lv := [(0, rr G 8 0 0)]) (by decide) rfl (Nat.le_of_ble_eq_true rfl) rfl ?_
  refine ev_aload_n (j := 0) dX12_orders_0 rfl rfl ?_
  refine ev_iconst dX12_orders_1 ?_
  refine ev_put fwX12_201 dX12_orders_2 dm8_0 en8_0 rfl rfl rfl (Nat.le_of_ble_eq_true rfl) ?_
  refine ev_iconst dX12_orders_5 ?_
  refine ev_istore_n dX12_orders_6 rfl (by decide) rfl ?_
  exact ev_sub [1, 0] rfl h
set_option maxRecDepth 20000 in
set_option maxHeartbeats 4000000 in
theorem bX12_orders_7 {G : GT} {K : List Value → Mem → Prop} {X : String → Mem → Prop} {M : Mem} {v1 : Int} (h : I32 v1 ∧ I32 (M 8 0 1 37) ∧ ((¬ v1 < (M 8 0 1 37) → K [] M) ∧ (v1 < (M 8 0 1 37) → Call G 0 0 zX12_isActive [rr G 8 0 0, iv v1] M (kI (fun x11 M9 => I32 x11 ∧ ((x11 = 0 → eX12_orders G K X 7 [(0, rr G 8 0 0), (1, iv (v1 + 1))] [] M9) ∧ (¬ x11 = 0 → Call G 0 0 zX12_departs [rr G 8 0 0, iv v1] M9 (kI (fun x21 M19 => Call G 0 0 zX12_comes [rr G 8 0 0, iv x21, iv v1] M19 (kV (fun M22 => eX12_orders G K X 7 [(0, rr G 8 0 0), (1, iv (v1 + 1))] [] M22)) noX)) noX)))) noX))) : eX12_orders G K X 7 [(0, rr G 8 0 0), (1, iv v1)] [] M := by
  show Ex G zX12_orders 1 0 K X 0 7 [(0, rr G 8 0 0), (1, iv v1)] [] M
  refine ev_iload_n (j := 1) dX12_orders_7 rfl rfl ?_
  refine ev_aload_n (j := 0) dX12_orders_8 rfl rfl ?_
  refine ev_get frX12_7 dX12_orders_9 dm8_0 en8_0 rfl ?_
  refine ev_bipush dX12_orders_12 (by decide) ?_
  refine ev_iald dX12_orders_14 dm8_1 ar8_1 (by decide) (by decide) (by decide) ?_
  obtain ⟨s1, s2, h3⟩ := h
  obtain ⟨h4, h5⟩ := h3
  refine ev_icmp_ge 42 dX12_orders_15 (by decide) s1 s2 (fun c6 => ?_) (fun c6 => ?_)
  · have h7 := h4 c6
    exact ev_vret dX12_orders_42 (by decide) rfl h7
  · have h8 := h5 c6
    refine ev_aload_n (j := 0) dX12_orders_18 rfl rfl ?_
    refine ev_iload_n (j := 1) dX12_orders_19 rfl rfl ?_
    refine ev_callVI (As := [iv v1]) (st := []) mfX12_isActive mlX12_149 dX12_orders_20 rfl dm8_0 en8_0 rfl rfl rfl (by decide) (by decide) (by decide) (Nat.le_of_ble_eq_true rfl) (fun _ _ z => z.elim) h8 (fun x11 M9 h10 => ?_)
    obtain ⟨s12, h13⟩ := h10
    obtain ⟨h14, h15⟩ := h13
    refine ev_if_eq 36 dX12_orders_23 (by decide) s12 (fun c16 => ?_) (fun c16 => ?_)
    · have h17 := h14 c16
      refine ev_iinc (j := 1) dX12_orders_36 rfl (by decide) rfl ?_
      refine ev_goto 7 dX12_orders_39 (by decide) ?_
      exact ev_sub [1, 0] rfl h17
    · have h18 := h15 c16
      refine ev_aload_n (j := 0) dX12_orders_26 rfl rfl ?_
      refine ev_aload_n (j := 0) dX12_orders_27 rfl rfl ?_
      refine ev_iload_n (j := 1) dX12_orders_28 rfl rfl ?_
      refine ev_callVI (As := [iv v1]) (st := [rr G 8 0 0]) mfX12_departs mlX12_109 dX12_orders_29 rfl dm8_0 en8_0 rfl rfl rfl (by decide) (by decide) (by decide) (Nat.le_of_ble_eq_true rfl) (fun _ _ z => z.elim) h18 (fun x21 M19 h20 => ?_)
      refine ev_iload_n (j := 1) dX12_orders_32 rfl rfl ?_
      refine ev_callVV (As := [iv x21, iv v1]) (st := []) mfX12_comes mlX12_207 dX12_orders_33 rfl dm8_0 en8_0 rfl rfl rfl (by decide) (by decide) (by decide) (Nat.le_of_ble_eq_true rfl) (fun _ _ z => z.elim) h20 (fun M22 h23 => ?_)
      refine ev_iinc (j := 1) dX12_orders_36 rfl (by decide) rfl ?_
      refine ev_goto 7 dX12_orders_39 (by decide) ?_
      exact ev_sub [1, 0] rfl h23
def eX12_pairCost (G : GT) (K : List Value → Mem → Prop) (X : String → Mem → Prop) (pc : Nat) (lv : List (Nat × Value)) (st : List Value) (M : Mem) : Prop := Ex G zX12_pairCost 2 0 K X 0 pc lv st M
set_option maxRecDepth 20000 in
set_option maxHeartbeats 4000000 in
theorem bX12_pairCost {G : GT} {K : List Value → Mem → Prop} {X : String → Mem → Prop} {M : Mem} {v1 v2 v3 : Int} (h : Call G 0 0 zX12_departs [rr G 8 0 0, iv v2] M (kI (fun x3 M1 => Call G 1 0 zX12_arrives [rr G 8 0 0, iv v1] M1 (kI (fun x6 M4 => K [iv ((x3 - x6) - v3)] M4)) noX)) noX) : Call G 2 0 zX12_pairCost [rr G 8 0 0, iv v1, iv v2, iv v3] M K X := by
  refine call_intro (lv := [(0, rr G 8 0 0), (1, iv v1), (2, iv v2), (3, iv v3)]) (by decide) rfl (Nat.le_of_ble_eq_true rfl) rfl ?_
  refine ev_aload_n (j := 0) dX12_pairCost_0 rfl rfl ?_
  refine ev_iload_n (j := 2) dX12_pairCost_1 rfl rfl ?_
  refine ev_callVI (As := [iv v2]) (st := []) mfX12_departs mlX12_109 dX12_pairCost_2 rfl dm8_0 en8_0 rfl rfl rfl (by decide) (by decide) (by decide) (Nat.le_of_ble_eq_true rfl) (fun _ _ z => z.elim) h (fun x3 M1 h2 => ?_)
  refine ev_aload_n (j := 0) dX12_pairCost_5 rfl rfl ?_
  refine ev_iload_n (j := 1) dX12_pairCost_6 rfl rfl ?_
  refine ev_callVI (As := [iv v1]) (st := [iv x3]) mfX12_arrives mlX12_123 dX12_pairCost_7 rfl dm8_0 en8_0 rfl rfl rfl (by decide) (by decide) (by decide) (Nat.le_of_ble_eq_true rfl) (fun _ _ z => z.elim) h2 (fun x6 M4 h5 => ?_)
  refine ev_isub dX12_pairCost_10 ?_
  refine ev_iload_n (j := 3) dX12_pairCost_11 rfl rfl ?_
  refine ev_isub dX12_pairCost_12 ?_
  exact ev_iret dX12_pairCost_13 (by decide) rfl h5
def eX12_passage (G : GT) (K : List Value → Mem → Prop) (X : String → Mem → Prop) (pc : Nat) (lv : List (Nat × Value)) (st : List Value) (M : Mem) : Prop := Ex G zX12_passage 4 0 K X 0 pc lv st M
set_option maxRecDepth 20000 in
set_option maxHeartbeats 4000000 in
theorem bX12_passage {G : GT} {K : List Value → Mem → Prop} {X : String → Mem → Prop} {M : Mem} {v1 v2 v3 v4 : Int} (h : Call G 0 0 zX12_in [iv v1, iv 0, iv 1] M (kI (fun x3 M1 => I32 x3 ∧ ((x3 = 0 → K [iv 0] (wr M1 8 0 0 7 1)) ∧ (¬ x3 = 0 → Call G 1 0 zX12_isStop [iv v2] M1 (kI (fun x13 M11 => I32 x13 ∧ ((x13 = 0 → K [iv 0] (wr M11 8 0 0 7 1)) ∧ (¬ x13 = 0 → Call G 3 0 zX12_passages [rr G 8 0 0, iv v1, iv v2] (wr M11 8 0 0 7 0) (kV (fun M21 => Call G 0 0 zX12_in [iv v3, iv 0, iv ((M21 8 0 0 10) - 1)] M21 (kI (fun x26 M24 => I32 x26 ∧ ((¬ x26 = 0 → I32 v4 ∧ ((v4 = 0 → 0 ≤ v3 ∧ v3 < 30 ∧ K [iv (M24 8 0 5 v3)] M24) ∧ (¬ v4 = 0 → 0 ≤ v3 ∧ v3 < 30 ∧ K [iv (M24 8 0 6 v3)] M24))) ∧ (x26 = 0 → Call G 0 0 zX12_fails [rr G 8 0 0, iv 2] M24 (kI (fun x49 M47 => K [iv x49] M47)) noX)))) noX)) noX)))) noX)))) noX) : Call G 4 0 zX12_passage [rr G 8 0 0, iv v1, iv v2, iv v3, iv v4] M K X := by
  refine call_intro (lv := [(0, rr G 8 0 0), (1, iv v1), (2, iv v2), (3, iv v3), (4, iv v4)]) (by decide) rfl (Nat.le_of_ble_eq_true rfl) rfl ?_
  refine ev_aload_n (j := 0) dX12_passage_0 rfl rfl ?_
  refine ev_iload_n (j := 1) dX12_passage_1 rfl rfl ?_
  refine ev_iconst dX12_passage_2 ?_
  refine ev_iconst dX12_passage_3 ?_
  refine ev_callSI (As := [iv v1, iv 0, iv 1]) (st := [rr G 8 0 0]) mfX12_in mlX12_87 dX12_passage_4 rfl rfl (by decide) (by decide) (by decide) (Nat.le_of_ble_eq_true rfl) (fun _ _ z => z.elim) h (fun x3 M1 h2 => ?_)
  obtain ⟨s4, h5⟩ := h2
  obtain ⟨h6, h7⟩ := h5
  refine ev_if_eq 21 dX12_passage_7 (by decide) s4 (fun c8 => ?_) (fun c8 => ?_)
  · have h9 := h6 c8
    refine ev_iconst dX12_passage_21 ?_
    refine ev_put fwX12_84 dX12_passage_22 dm8_0 en8_0 rfl rfl rfl (Nat.le_of_ble_eq_true rfl) ?_
    refine ev_aload_n (j := 0) dX12_passage_25 rfl rfl ?_
    refine ev_get frX12_84 dX12_passage_26 dm8_0 en8_0 rfl ?_
    refine ev_topI (b := 1) rfl ?_
    refine ev_if_le 34 dX12_passage_29 (by decide) ⟨by decide, by decide⟩ (fun c9 => absurd c9 (by decide)) (fun _ => ?_)
    refine ev_iconst dX12_passage_32 ?_
    exact ev_iret dX12_passage_33 (by decide) rfl h9
  · have h10 := h7 c8
    refine ev_iload_n (j := 2) dX12_passage_10 rfl rfl ?_
    refine ev_callSI (As := [iv v2]) (st := [rr G 8 0 0]) mfX12_isStop mlX12_155 dX12_passage_11 rfl rfl (by decide) (by decide) (by decide) (Nat.le_of_ble_eq_true rfl) (fun _ _ z => z.elim) h10 (fun x13 M11 h12 => ?_)
    obtain ⟨s14, h15⟩ := h12
    obtain ⟨h16, h17⟩ := h15
    refine ev_if_eq 21 dX12_passage_14 (by decide) s14 (fun c18 => ?_) (fun c18 => ?_)
    · have h19 := h16 c18
      refine ev_iconst dX12_passage_21 ?_
      refine ev_put fwX12_84 dX12_passage_22 dm8_0 en8_0 rfl rfl rfl (Nat.le_of_ble_eq_true rfl) ?_
      refine ev_aload_n (j := 0) dX12_passage_25 rfl rfl ?_
      refine ev_get frX12_84 dX12_passage_26 dm8_0 en8_0 rfl ?_
      refine ev_topI (b := 1) rfl ?_
      refine ev_if_le 34 dX12_passage_29 (by decide) ⟨by decide, by decide⟩ (fun c9 => absurd c9 (by decide)) (fun _ => ?_)
      refine ev_iconst dX12_passage_32 ?_
      exact ev_iret dX12_passage_33 (by decide) rfl h19
    · have h20 := h17 c18
      refine ev_iconst dX12_passage_17 ?_
      refine ev_goto 22 dX12_passage_18 (by decide) ?_
      refine ev_put fwX12_84 dX12_passage_22 dm8_0 en8_0 rfl rfl rfl (Nat.le_of_ble_eq_true rfl) ?_
      refine ev_aload_n (j := 0) dX12_passage_25 rfl rfl ?_
      refine ev_get frX12_84 dX12_passage_26 dm8_0 en8_0 rfl ?_
      refine ev_topI (b := 0) rfl ?_
      refine ev_if_le 34 dX12_passage_29 (by decide) ⟨by decide, by decide⟩ (fun _ => ?_) (fun c9 => absurd c9 (by decide))
      refine ev_aload_n (j := 0) dX12_passage_34 rfl rfl ?_
      refine ev_iload_n (j := 1) dX12_passage_35 rfl rfl ?_
      refine ev_iload_n (j := 2) dX12_passage_36 rfl rfl ?_
      refine ev_callVV (As := [iv v1, iv v2]) (st := []) mfX12_passages mlX12_211 dX12_passage_37 rfl dm8_0 en8_0 rfl rfl rfl (by decide) (by decide) (by decide) (Nat.le_of_ble_eq_true rfl) (fun _ _ z => z.elim) h20 (fun M21 h22 => ?_)
      refine ev_iload_n (j := 3) dX12_passage_40 rfl rfl ?_
      refine ev_iconst dX12_passage_41 ?_
      refine ev_aload_n (j := 0) dX12_passage_42 rfl rfl ?_
      refine ev_get frX12_201 dX12_passage_43 dm8_0 en8_0 rfl ?_
      refine ev_iconst dX12_passage_46 ?_
      refine ev_isub dX12_passage_47 ?_
      refine ev_callSI (As := [iv v3, iv 0, iv ((M21 8 0 0 10) - 1)]) (st := []) mfX12_in mlX12_87 dX12_passage_48 rfl rfl (by decide) (by decide) (by decide) (Nat.le_of_ble_eq_true rfl) (fun _ _ z => z.elim) h22 (fun x26 M24 h25 => ?_)
      obtain ⟨s27, h28⟩ := h25
      obtain ⟨h29, h30⟩ := h28
      refine ev_if_ne 60 dX12_passage_51 (by decide) s27 (fun c31 => ?_) (fun c31 => ?_)
      · have h32 := h29 c31
        refine ev_iload (j := 4) dX12_passage_60 rfl ?_
        obtain ⟨s33, h34⟩ := h32
        obtain ⟨h35, h36⟩ := h34
        refine ev_if_eq 74 dX12_passage_62 (by decide) s33 (fun c37 => ?_) (fun c37 => ?_)
        · have h38 := h35 c37
          refine ev_aload_n (j := 0) dX12_passage_74 rfl rfl ?_
          refine ev_get frX12_22 dX12_passage_75 dm8_0 en8_0 rfl ?_
          refine ev_iload_n (j := 3) dX12_passage_78 rfl rfl ?_
          obtain ⟨s39, s40, h41⟩ := h38
          refine ev_iald dX12_passage_79 dm8_5 ar8_5 (by decide) s39 s40 ?_
          exact ev_iret dX12_passage_80 (by decide) rfl h41
        · have h42 := h36 c37
          refine ev_aload_n (j := 0) dX12_passage_65 rfl rfl ?_
          refine ev_get frX12_25 dX12_passage_66 dm8_0 en8_0 rfl ?_
          refine ev_iload_n (j := 3) dX12_passage_69 rfl rfl ?_
          obtain ⟨s43, s44, h45⟩ := h42
          refine ev_iald dX12_passage_70 dm8_6 ar8_6 (by decide) s43 s44 ?_
          refine ev_goto 80 dX12_passage_71 (by decide) ?_
          exact ev_iret dX12_passage_80 (by decide) rfl h45
      · have h46 := h30 c31
        refine ev_aload_n (j := 0) dX12_passage_54 rfl rfl ?_
        refine ev_iconst dX12_passage_55 ?_
        refine ev_callVI (As := [iv 2]) (st := []) mfX12_fails mlX12_146 dX12_passage_56 rfl dm8_0 en8_0 rfl rfl rfl (by decide) (by decide) (by decide) (Nat.le_of_ble_eq_true rfl) (fun _ _ z => z.elim) h46 (fun x49 M47 h48 => ?_)
        exact ev_iret dX12_passage_59 (by decide) rfl h48
def eX12_passages (G : GT) (K : List Value → Mem → Prop) (X : String → Mem → Prop) (pc : Nat) (lv : List (Nat × Value)) (st : List Value) (M : Mem) : Prop := Ex G zX12_passages 3 0 K X 0 pc lv st M
set_option maxRecDepth 20000 in
set_option maxHeartbeats 4000000 in
theorem bX12_passages {G : GT} {K : List Value → Mem → Prop} {X : String → Mem → Prop} {M : Mem} {v1 v2 : Int} (h : eX12_passages G K X 7 [(0, rr G 8 0 0), (1, iv v1), (2, iv v2), (3, iv 0)] [] (wr M 8 0 0 10 0)) : Call G 3 0 zX12_passages [rr G 8 0 0, iv v1, iv v2] M K X := by
  refine call_intro (lv := [(0, rr G 8 0 0), (1, iv v1), (2, iv v2)]) (by decide) rfl (Nat.le_of_ble_eq_true rfl) rfl ?_
  refine ev_aload_n (j := 0) dX12_passages_0 rfl rfl ?_
  refine ev_iconst dX12_passages_1 ?_
  refine ev_put fwX12_201 dX12_passages_2 dm8_0 en8_0 rfl rfl rfl (Nat.le_of_ble_eq_true rfl) ?_
  refine ev_iconst dX12_passages_5 ?_
  refine ev_istore_n dX12_passages_6 rfl (by decide) rfl ?_
  exact ev_sub [1, 2, 3, 0] rfl h
set_option maxRecDepth 20000 in
set_option maxHeartbeats 4000000 in
theorem bX12_passages_7 {G : GT} {K : List Value → Mem → Prop} {X : String → Mem → Prop} {M : Mem} {v1 v2 v3 : Int} (h : I32 v3 ∧ I32 (M 8 0 1 37) ∧ ((¬ v3 < (M 8 0 1 37) → K [] M) ∧ (v3 < (M 8 0 1 37) → Call G 0 0 zX12_isActive [rr G 8 0 0, iv v3] M (kI (fun x11 M9 => I32 x11 ∧ ((x11 = 0 → eX12_passages G K X 7 [(0, rr G 8 0 0), (1, iv v1), (2, iv v2), (3, iv (v3 + 1))] [] M9) ∧ (¬ x11 = 0 → Call G 2 0 zX12_departsFrom [rr G 8 0 0, iv v3, iv v1, iv v2] M9 (kI (fun x21 M19 => I32 x21 ∧ ((x21 = 0 → eX12_passages G K X 7 [(0, rr G 8 0 0), (1, iv v1), (2, iv v2), (3, iv (v3 + 1))] [] M19) ∧ (¬ x21 = 0 → Call G 1 0 zX12_plannedAt [rr G 8 0 0, iv v3, iv v2] M19 (kI (fun x31 M29 => Call G 0 0 zX12_comes [rr G 8 0 0, iv x31, iv v3] M29 (kV (fun M32 => eX12_passages G K X 7 [(0, rr G 8 0 0), (1, iv v1), (2, iv v2), (3, iv (v3 + 1))] [] M32)) noX)) noX)))) noX)))) noX))) : eX12_passages G K X 7 [(0, rr G 8 0 0), (1, iv v1), (2, iv v2), (3, iv v3)] [] M := by
  show Ex G zX12_passages 3 0 K X 0 7 [(0, rr G 8 0 0), (1, iv v1), (2, iv v2), (3, iv v3)] [] M
  refine ev_iload_n (j := 3) dX12_passages_7 rfl rfl ?_
  refine ev_aload_n (j := 0) dX12_passages_8 rfl rfl ?_
  refine ev_get frX12_7 dX12_passages_9 dm8_0 en8_0 rfl ?_
  refine ev_bipush dX12_passages_12 (by decide) ?_
  refine ev_iald dX12_passages_14 dm8_1 ar8_1 (by decide) (by decide) (by decide) ?_
  obtain ⟨s1, s2, h3⟩ := h
  obtain ⟨h4, h5⟩ := h3
  refine ev_icmp_ge 53 dX12_passages_15 (by decide) s1 s2 (fun c6 => ?_) (fun c6 => ?_)
  · have h7 := h4 c6
    exact ev_vret dX12_passages_53 (by decide) rfl h7
  · have h8 := h5 c6
    refine ev_aload_n (j := 0) dX12_passages_18 rfl rfl ?_
    refine ev_iload_n (j := 3) dX12_passages_19 rfl rfl ?_
    refine ev_callVI (As := [iv v3]) (st := []) mfX12_isActive mlX12_149 dX12_passages_20 rfl dm8_0 en8_0 rfl rfl rfl (by decide) (by decide) (by decide) (Nat.le_of_ble_eq_true rfl) (fun _ _ z => z.elim) h8 (fun x11 M9 h10 => ?_)
    obtain ⟨s12, h13⟩ := h10
    obtain ⟨h14, h15⟩ := h13
    refine ev_if_eq 47 dX12_passages_23 (by decide) s12 (fun c16 => ?_) (fun c16 => ?_)
    · have h17 := h14 c16
      refine ev_iinc (j := 3) dX12_passages_47 rfl (by decide) rfl ?_
      refine ev_goto 7 dX12_passages_50 (by decide) ?_
      exact ev_sub [1, 2, 3, 0] rfl h17
    · have h18 := h15 c16
      refine ev_aload_n (j := 0) dX12_passages_26 rfl rfl ?_
      refine ev_iload_n (j := 3) dX12_passages_27 rfl rfl ?_
      refine ev_iload_n (j := 1) dX12_passages_28 rfl rfl ?_
      refine ev_iload_n (j := 2) dX12_passages_29 rfl rfl ?_
      refine ev_callVI (As := [iv v3, iv v1, iv v2]) (st := []) mfX12_departsFrom mlX12_204 dX12_passages_30 rfl dm8_0 en8_0 rfl rfl rfl (by decide) (by decide) (by decide) (Nat.le_of_ble_eq_true rfl) (fun _ _ z => z.elim) h18 (fun x21 M19 h20 => ?_)
      obtain ⟨s22, h23⟩ := h20
      obtain ⟨h24, h25⟩ := h23
      refine ev_if_eq 47 dX12_passages_33 (by decide) s22 (fun c26 => ?_) (fun c26 => ?_)
      · have h27 := h24 c26
        refine ev_iinc (j := 3) dX12_passages_47 rfl (by decide) rfl ?_
        refine ev_goto 7 dX12_passages_50 (by decide) ?_
        exact ev_sub [1, 2, 3, 0] rfl h27
      · have h28 := h25 c26
        refine ev_aload_n (j := 0) dX12_passages_36 rfl rfl ?_
        refine ev_aload_n (j := 0) dX12_passages_37 rfl rfl ?_
        refine ev_iload_n (j := 3) dX12_passages_38 rfl rfl ?_
        refine ev_iload_n (j := 2) dX12_passages_39 rfl rfl ?_
        refine ev_callVI (As := [iv v3, iv v2]) (st := [rr G 8 0 0]) mfX12_plannedAt mlX12_185 dX12_passages_40 rfl dm8_0 en8_0 rfl rfl rfl (by decide) (by decide) (by decide) (Nat.le_of_ble_eq_true rfl) (fun _ _ z => z.elim) h28 (fun x31 M29 h30 => ?_)
        refine ev_iload_n (j := 3) dX12_passages_43 rfl rfl ?_
        refine ev_callVV (As := [iv x31, iv v3]) (st := []) mfX12_comes mlX12_207 dX12_passages_44 rfl dm8_0 en8_0 rfl rfl rfl (by decide) (by decide) (by decide) (Nat.le_of_ble_eq_true rfl) (fun _ _ z => z.elim) h30 (fun M32 h33 => ?_)
        refine ev_iinc (j := 3) dX12_passages_47 rfl (by decide) rfl ?_
        refine ev_goto 7 dX12_passages_50 (by decide) ?_
        exact ev_sub [1, 2, 3, 0] rfl h33
def eX12_placeFor (G : GT) (K : List Value → Mem → Prop) (X : String → Mem → Prop) (pc : Nat) (lv : List (Nat × Value)) (st : List Value) (M : Mem) : Prop := Ex G zX12_placeFor 1 0 K X 0 pc lv st M
set_option maxRecDepth 20000 in
set_option maxHeartbeats 4000000 in
theorem bX12_placeFor {G : GT} {K : List Value → Mem → Prop} {X : String → Mem → Prop} {M : Mem} {v1 v2 : Int} (h : eX12_placeFor G K X 2 [(0, rr G 8 0 0), (1, iv v1), (2, iv v2), (3, iv 0)] [] M) : Call G 1 0 zX12_placeFor [rr G 8 0 0, iv v1, iv v2] M K X := by
  refine call_intro (lv := [(0, rr G 8 0 0), (1, iv v1), (2, iv v2)]) (by decide) rfl (Nat.le_of_ble_eq_true rfl) rfl ?_
  refine ev_iconst dX12_placeFor_0 ?_
  refine ev_istore_n dX12_placeFor_1 rfl (by decide) rfl ?_
  exact ev_sub [1, 2, 3, 0] rfl h
set_option maxRecDepth 20000 in
set_option maxHeartbeats 4000000 in
theorem bX12_placeFor_2 {G : GT} {K : List Value → Mem → Prop} {X : String → Mem → Prop} {M : Mem} {v1 v2 v3 : Int} (h : 0 ≤ 171 + v2 ∧ 171 + v2 < 500 ∧ I32 v3 ∧ I32 (M 8 0 1 (171 + v2)) ∧ ((¬ v3 < (M 8 0 1 (171 + v2)) → K [iv v3] M) ∧ (v3 < (M 8 0 1 (171 + v2)) → Call G 0 0 zX12_dutyAt [rr G 8 0 0, iv v2, iv v3] M (kI (fun x14 M12 => Call G 0 0 zX12_departs [rr G 8 0 0, iv x14] M12 (kI (fun x17 M15 => Call G 0 0 zX12_departs [rr G 8 0 0, iv v1] M15 (kI (fun x20 M18 => I32 x17 ∧ I32 x20 ∧ ((¬ x17 < x20 → K [iv v3] M18) ∧ (x17 < x20 → eX12_placeFor G K X 2 [(0, rr G 8 0 0), (1, iv v1), (2, iv v2), (3, iv (v3 + 1))] [] M18)))) noX)) noX)) noX))) : eX12_placeFor G K X 2 [(0, rr G 8 0 0), (1, iv v1), (2, iv v2), (3, iv v3)] [] M := by
  show Ex G zX12_placeFor 1 0 K X 0 2 [(0, rr G 8 0 0), (1, iv v1), (2, iv v2), (3, iv v3)] [] M
  refine ev_iload_n (j := 3) dX12_placeFor_2 rfl rfl ?_
  refine ev_aload_n (j := 0) dX12_placeFor_3 rfl rfl ?_
  refine ev_get frX12_7 dX12_placeFor_4 dm8_0 en8_0 rfl ?_
  refine ev_sipush dX12_placeFor_7 (by decide) ?_
  refine ev_iload_n (j := 2) dX12_placeFor_10 rfl rfl ?_
  refine ev_iadd dX12_placeFor_11 ?_
  obtain ⟨s1, s2, h3⟩ := h
  refine ev_iald dX12_placeFor_12 dm8_1 ar8_1 (by decide) s1 s2 ?_
  obtain ⟨s4, s5, h6⟩ := h3
  obtain ⟨h7, h8⟩ := h6
  refine ev_icmp_ge 40 dX12_placeFor_13 (by decide) s4 s5 (fun c9 => ?_) (fun c9 => ?_)
  · have h10 := h7 c9
    refine ev_iload_n (j := 3) dX12_placeFor_40 rfl rfl ?_
    exact ev_iret dX12_placeFor_41 (by decide) rfl h10
  · have h11 := h8 c9
    refine ev_aload_n (j := 0) dX12_placeFor_16 rfl rfl ?_
    refine ev_aload_n (j := 0) dX12_placeFor_17 rfl rfl ?_
    refine ev_iload_n (j := 2) dX12_placeFor_18 rfl rfl ?_
    refine ev_iload_n (j := 3) dX12_placeFor_19 rfl rfl ?_
    refine ev_callVI (As := [iv v2, iv v3]) (st := [rr G 8 0 0]) mfX12_dutyAt mlX12_126 dX12_placeFor_20 rfl dm8_0 en8_0 rfl rfl rfl (by decide) (by decide) (by decide) (Nat.le_of_ble_eq_true rfl) (fun _ _ z => z.elim) h11 (fun x14 M12 h13 => ?_)
    refine ev_callVI (As := [iv x14]) (st := []) mfX12_departs mlX12_109 dX12_placeFor_23 rfl dm8_0 en8_0 rfl rfl rfl (by decide) (by decide) (by decide) (Nat.le_of_ble_eq_true rfl) (fun _ _ z => z.elim) h13 (fun x17 M15 h16 => ?_)
    refine ev_aload_n (j := 0) dX12_placeFor_26 rfl rfl ?_
    refine ev_iload_n (j := 1) dX12_placeFor_27 rfl rfl ?_
    refine ev_callVI (As := [iv v1]) (st := [iv x17]) mfX12_departs mlX12_109 dX12_placeFor_28 rfl dm8_0 en8_0 rfl rfl rfl (by decide) (by decide) (by decide) (Nat.le_of_ble_eq_true rfl) (fun _ _ z => z.elim) h16 (fun x20 M18 h19 => ?_)
    obtain ⟨s21, s22, h23⟩ := h19
    obtain ⟨h24, h25⟩ := h23
    refine ev_icmp_ge 40 dX12_placeFor_31 (by decide) s21 s22 (fun c26 => ?_) (fun c26 => ?_)
    · have h27 := h24 c26
      refine ev_iload_n (j := 3) dX12_placeFor_40 rfl rfl ?_
      exact ev_iret dX12_placeFor_41 (by decide) rfl h27
    · have h28 := h25 c26
      refine ev_iinc (j := 3) dX12_placeFor_34 rfl (by decide) rfl ?_
      refine ev_goto 2 dX12_placeFor_37 (by decide) ?_
      exact ev_sub [1, 2, 3, 0] rfl h28
def eX12_planned (G : GT) (K : List Value → Mem → Prop) (X : String → Mem → Prop) (pc : Nat) (lv : List (Nat × Value)) (st : List Value) (M : Mem) : Prop := Ex G zX12_planned 2 0 K X 0 pc lv st M
set_option maxRecDepth 20000 in
set_option maxHeartbeats 4000000 in
theorem bX12_planned {G : GT} {K : List Value → Mem → Prop} {X : String → Mem → Prop} {M : Mem} {v1 v2 : Int} (h : Call G 1 0 zX12_isTrip [rr G 8 0 0, iv v1] M (kI (fun x3 M1 => I32 x3 ∧ ((x3 = 0 → K [iv 0] (wr M1 8 0 0 7 1)) ∧ (¬ x3 = 0 → Call G 1 0 zX12_isOnWay [rr G 8 0 0, iv v1, iv v2] M1 (kI (fun x13 M11 => I32 x13 ∧ ((x13 = 0 → K [iv 0] (wr M11 8 0 0 7 2)) ∧ (¬ x13 = 0 → Call G 1 0 zX12_plannedAt [rr G 8 0 0, iv v1, iv v2] (wr M11 8 0 0 7 0) (kI (fun x23 M21 => K [iv x23] M21)) noX)))) noX)))) noX) : Call G 2 0 zX12_planned [rr G 8 0 0, iv v1, iv v2] M K X := by
  refine call_intro (lv := [(0, rr G 8 0 0), (1, iv v1), (2, iv v2)]) (by decide) rfl (Nat.le_of_ble_eq_true rfl) rfl ?_
  refine ev_aload_n (j := 0) dX12_planned_0 rfl rfl ?_
  refine ev_aload_n (j := 0) dX12_planned_1 rfl rfl ?_
  refine ev_iload_n (j := 1) dX12_planned_2 rfl rfl ?_
  refine ev_callVI (As := [iv v1]) (st := [rr G 8 0 0]) mfX12_isTrip mlX12_169 dX12_planned_3 rfl dm8_0 en8_0 rfl rfl rfl (by decide) (by decide) (by decide) (Nat.le_of_ble_eq_true rfl) (fun _ _ z => z.elim) h (fun x3 M1 h2 => ?_)
  obtain ⟨s4, h5⟩ := h2
  obtain ⟨h6, h7⟩ := h5
  refine ev_if_eq 26 dX12_planned_6 (by decide) s4 (fun c8 => ?_) (fun c8 => ?_)
  · have h9 := h6 c8
    refine ev_iconst dX12_planned_26 ?_
    refine ev_put fwX12_84 dX12_planned_27 dm8_0 en8_0 rfl rfl rfl (Nat.le_of_ble_eq_true rfl) ?_
    refine ev_aload_n (j := 0) dX12_planned_30 rfl rfl ?_
    refine ev_get frX12_84 dX12_planned_31 dm8_0 en8_0 rfl ?_
    refine ev_topI (b := 1) rfl ?_
    refine ev_if_le 41 dX12_planned_34 (by decide) ⟨by decide, by decide⟩ (fun c9 => absurd c9 (by decide)) (fun _ => ?_)
    refine ev_iconst dX12_planned_37 ?_
    refine ev_goto 47 dX12_planned_38 (by decide) ?_
    exact ev_iret dX12_planned_47 (by decide) rfl h9
  · have h10 := h7 c8
    refine ev_aload_n (j := 0) dX12_planned_9 rfl rfl ?_
    refine ev_iload_n (j := 1) dX12_planned_10 rfl rfl ?_
    refine ev_iload_n (j := 2) dX12_planned_11 rfl rfl ?_
    refine ev_callVI (As := [iv v1, iv v2]) (st := [rr G 8 0 0]) mfX12_isOnWay mlX12_182 dX12_planned_12 rfl dm8_0 en8_0 rfl rfl rfl (by decide) (by decide) (by decide) (Nat.le_of_ble_eq_true rfl) (fun _ _ z => z.elim) h10 (fun x13 M11 h12 => ?_)
    obtain ⟨s14, h15⟩ := h12
    obtain ⟨h16, h17⟩ := h15
    refine ev_if_eq 22 dX12_planned_15 (by decide) s14 (fun c18 => ?_) (fun c18 => ?_)
    · have h19 := h16 c18
      refine ev_iconst dX12_planned_22 ?_
      refine ev_goto 27 dX12_planned_23 (by decide) ?_
      refine ev_put fwX12_84 dX12_planned_27 dm8_0 en8_0 rfl rfl rfl (Nat.le_of_ble_eq_true rfl) ?_
      refine ev_aload_n (j := 0) dX12_planned_30 rfl rfl ?_
      refine ev_get frX12_84 dX12_planned_31 dm8_0 en8_0 rfl ?_
      refine ev_topI (b := 2) rfl ?_
      refine ev_if_le 41 dX12_planned_34 (by decide) ⟨by decide, by decide⟩ (fun c9 => absurd c9 (by decide)) (fun _ => ?_)
      refine ev_iconst dX12_planned_37 ?_
      refine ev_goto 47 dX12_planned_38 (by decide) ?_
      exact ev_iret dX12_planned_47 (by decide) rfl h19
    · have h20 := h17 c18
      refine ev_iconst dX12_planned_18 ?_
      refine ev_goto 27 dX12_planned_19 (by decide) ?_
      refine ev_put fwX12_84 dX12_planned_27 dm8_0 en8_0 rfl rfl rfl (Nat.le_of_ble_eq_true rfl) ?_
      refine ev_aload_n (j := 0) dX12_planned_30 rfl rfl ?_
      refine ev_get frX12_84 dX12_planned_31 dm8_0 en8_0 rfl ?_
      refine ev_topI (b := 0) rfl ?_
      refine ev_if_le 41 dX12_planned_34 (by decide) ⟨by decide, by decide⟩ (fun _ => ?_) (fun c9 => absurd c9 (by decide))
      refine ev_aload_n (j := 0) dX12_planned_41 rfl rfl ?_
      refine ev_iload_n (j := 1) dX12_planned_42 rfl rfl ?_
      refine ev_iload_n (j := 2) dX12_planned_43 rfl rfl ?_
      refine ev_callVI (As := [iv v1, iv v2]) (st := []) mfX12_plannedAt mlX12_185 dX12_planned_44 rfl dm8_0 en8_0 rfl rfl rfl (by decide) (by decide) (by decide) (Nat.le_of_ble_eq_true rfl) (fun _ _ z => z.elim) h20 (fun x23 M21 h22 => ?_)
      exact ev_iret dX12_planned_47 (by decide) rfl h22
def eX12_plannedAt (G : GT) (K : List Value → Mem → Prop) (X : String → Mem → Prop) (pc : Nat) (lv : List (Nat × Value)) (st : List Value) (M : Mem) : Prop := Ex G zX12_plannedAt 1 0 K X 0 pc lv st M
set_option maxRecDepth 20000 in
set_option maxHeartbeats 4000000 in
theorem bX12_plannedAt {G : GT} {K : List Value → Mem → Prop} {X : String → Mem → Prop} {M : Mem} {v1 v2 : Int} (h : Call G 0 0 zX12_departs [rr G 8 0 0, iv v1] M (kI (fun x3 M1 => Call G 0 0 zX12_first [rr G 8 0 0, iv v1] M1 (kI (fun x6 M4 => Call G 0 0 zX12_between [rr G 8 0 0, iv x6, iv v2] M4 (kI (fun x9 M7 => K [iv (x3 + x9)] M7)) noX)) noX)) noX) : Call G 1 0 zX12_plannedAt [rr G 8 0 0, iv v1, iv v2] M K X := by
  refine call_intro (lv := [(0, rr G 8 0 0), (1, iv v1), (2, iv v2)]) (by decide) rfl (Nat.le_of_ble_eq_true rfl) rfl ?_
  refine ev_aload_n (j := 0) dX12_plannedAt_0 rfl rfl ?_
  refine ev_iload_n (j := 1) dX12_plannedAt_1 rfl rfl ?_
  refine ev_callVI (As := [iv v1]) (st := []) mfX12_departs mlX12_109 dX12_plannedAt_2 rfl dm8_0 en8_0 rfl rfl rfl (by decide) (by decide) (by decide) (Nat.le_of_ble_eq_true rfl) (fun _ _ z => z.elim) h (fun x3 M1 h2 => ?_)
  refine ev_aload_n (j := 0) dX12_plannedAt_5 rfl rfl ?_
  refine ev_aload_n (j := 0) dX12_plannedAt_6 rfl rfl ?_
  refine ev_iload_n (j := 1) dX12_plannedAt_7 rfl rfl ?_
  refine ev_callVI (As := [iv v1]) (st := [rr G 8 0 0, iv x3]) mfX12_first mlX12_113 dX12_plannedAt_8 rfl dm8_0 en8_0 rfl rfl rfl (by decide) (by decide) (by decide) (Nat.le_of_ble_eq_true rfl) (fun _ _ z => z.elim) h2 (fun x6 M4 h5 => ?_)
  refine ev_iload_n (j := 2) dX12_plannedAt_11 rfl rfl ?_
  refine ev_callVI (As := [iv x6, iv v2]) (st := [iv x3]) mfX12_between mlX12_119 dX12_plannedAt_12 rfl dm8_0 en8_0 rfl rfl rfl (by decide) (by decide) (by decide) (Nat.le_of_ble_eq_true rfl) (fun _ _ z => z.elim) h5 (fun x9 M7 h8 => ?_)
  refine ev_iadd dX12_plannedAt_15 ?_
  exact ev_iret dX12_plannedAt_16 (by decide) rfl h8
def eX12_readTrips (G : GT) (K : List Value → Mem → Prop) (X : String → Mem → Prop) (pc : Nat) (lv : List (Nat × Value)) (st : List Value) (M : Mem) : Prop := Ex G zX12_readTrips 4 0 K X 0 pc lv st M
set_option maxRecDepth 20000 in
set_option maxHeartbeats 4000000 in
theorem bX12_readTrips {G : GT} {K : List Value → Mem → Prop} {X : String → Mem → Prop} {M : Mem} (h : Call G 3 0 zX12_isText [rr G 8 0 0] (wr M 8 0 0 7 0) (kI (fun x3 M1 => I32 x3 ∧ ((x3 = 0 → Call G 0 0 zX12_fails [rr G 8 0 0, iv 1] (wr (wr M1 8 0 0 33 0) 8 0 0 36 (M1 8 0 0 34)) (kI (fun x12 M10 => K [iv x12] M10)) noX) ∧ (¬ x3 = 0 → Call G 1 0 zX12_begins [rr G 8 0 0] (wr (wr M1 8 0 0 33 0) 8 0 0 36 (-1)) (kV (fun M14 => eX12_readTrips G K X 47 [(0, rr G 8 0 0), (2, iv 0)] [] M14)) noX)))) noX) : Call G 4 0 zX12_readTrips [rr G 8 0 0] M K X := by
  refine call_intro (lv := [(0, rr G 8 0 0)]) (by decide) rfl (Nat.le_of_ble_eq_true rfl) rfl ?_
  refine ev_aload_n (j := 0) dX12_readTrips_0 rfl rfl ?_
  refine ev_iconst dX12_readTrips_1 ?_
  refine ev_put fwX12_84 dX12_readTrips_2 dm8_0 en8_0 rfl rfl rfl (Nat.le_of_ble_eq_true rfl) ?_
  refine ev_aload_n (j := 0) dX12_readTrips_5 rfl rfl ?_
  refine ev_callVI (As := []) (st := []) mfX12_isText mlX12_352 dX12_readTrips_6 rfl dm8_0 en8_0 rfl rfl rfl (by decide) (by decide) (by decide) (Nat.le_of_ble_eq_true rfl) (fun _ _ z => z.elim) h (fun x3 M1 h2 => ?_)
  refine ev_istore_n dX12_readTrips_9 rfl (by decide) rfl ?_
  refine ev_aload_n (j := 1) dX12_readTrips_10 rfl rfl ?_
  refine ev_iconst dX12_readTrips_11 ?_
  refine ev_put fwX12_329 dX12_readTrips_12 dm8_0 en8_0 rfl rfl rfl (Nat.le_of_ble_eq_true rfl) ?_
  refine ev_aload_n (j := 1) dX12_readTrips_15 rfl rfl ?_
  refine ev_iload_n (j := 0) dX12_readTrips_16 rfl rfl ?_
  obtain ⟨s4, h5⟩ := h2
  obtain ⟨h6, h7⟩ := h5
  refine ev_if_eq 24 dX12_readTrips_17 (by decide) s4 (fun c8 => ?_) (fun c8 => ?_)
  · have h9 := h6 c8
    refine ev_aload_n (j := 1) dX12_readTrips_24 rfl rfl ?_
    refine ev_get frX12_332 dX12_readTrips_25 dm8_0 en8_0 rfl ?_
    refine ev_topI (b := M1 8 0 0 34) rfl ?_
    refine ev_put fwX12_77 dX12_readTrips_28 dm8_0 en8_0 rfl rfl rfl (Nat.le_of_ble_eq_true rfl) ?_
    refine ev_iload_n (j := 0) dX12_readTrips_31 rfl rfl ?_
    refine ev_if_ne 41 dX12_readTrips_32 (by decide) s4 (fun c9 => absurd c8 c9) (fun _ => ?_)
    refine ev_aload_n (j := 1) dX12_readTrips_35 rfl rfl ?_
    refine ev_iconst dX12_readTrips_36 ?_
    refine ev_callVI (As := [iv 1]) (st := []) mfX12_fails mlX12_146 dX12_readTrips_37 rfl dm8_0 en8_0 rfl rfl rfl (by decide) (by decide) (by decide) (Nat.le_of_ble_eq_true rfl) (fun _ _ z => z.elim) h9 (fun x12 M10 h11 => ?_)
    exact ev_iret dX12_readTrips_40 (by decide) rfl h11
  · have h13 := h7 c8
    refine ev_iconst dX12_readTrips_20 ?_
    refine ev_goto 28 dX12_readTrips_21 (by decide) ?_
    refine ev_put fwX12_77 dX12_readTrips_28 dm8_0 en8_0 rfl rfl rfl (Nat.le_of_ble_eq_true rfl) ?_
    refine ev_iload_n (j := 0) dX12_readTrips_31 rfl rfl ?_
    refine ev_if_ne 41 dX12_readTrips_32 (by decide) s4 (fun _ => ?_) (fun c9 => absurd c9 c8)
    refine ev_aload_n (j := 1) dX12_readTrips_41 rfl rfl ?_
    refine ev_callVV (As := []) (st := []) mfX12_begins mlX12_139 dX12_readTrips_42 rfl dm8_0 en8_0 rfl rfl rfl (by decide) (by decide) (by decide) (Nat.le_of_ble_eq_true rfl) (fun _ _ z => z.elim) h13 (fun M14 h15 => ?_)
    refine ev_iconst dX12_readTrips_45 ?_
    refine ev_istore_n dX12_readTrips_46 rfl (by decide) rfl ?_
    exact ev_sub [2, 0] rfl h15
set_option maxRecDepth 20000 in
set_option maxHeartbeats 4000000 in
theorem bX12_readTrips_47 {G : GT} {K : List Value → Mem → Prop} {X : String → Mem → Prop} {M : Mem} {v2 : Int} (h : I32 v2 ∧ I32 (M 8 0 0 38) ∧ ((¬ v2 < (M 8 0 0 38) → Call G 0 0 zX12_remembers [rr G 8 0 0] M (kV (fun M8 => K [iv (M8 8 0 0 38)] M8)) noX) ∧ (v2 < (M 8 0 0 38) → 0 ≤ 3 * v2 ∧ 3 * v2 < 60 ∧ 0 ≤ (3 * v2) + 1 ∧ (3 * v2) + 1 < 60 ∧ 0 ≤ (3 * v2) + 2 ∧ (3 * v2) + 2 < 60 ∧ Call G 2 0 zX12_tripStops [rr G 8 0 0, iv (M 8 0 23 (3 * v2)), iv (M 8 0 23 ((3 * v2) + 1)), iv (M 8 0 23 ((3 * v2) + 2))] M (kI (fun x23 M21 => I32 x23 ∧ ((¬ 0 < x23 → Call G 0 0 zX12_tripComes [rr G 8 0 0, iv (M21 8 0 23 (3 * v2)), iv (M21 8 0 23 ((3 * v2) + 1)), iv (M21 8 0 23 ((3 * v2) + 2))] M21 (kV (fun M30 => eX12_readTrips G K X 47 [(0, rr G 8 0 0), (2, iv (v2 + 1))] [] M30)) noX) ∧ (0 < x23 → Call G 0 0 zX12_copies [rr G 8 0 0, rr G 8 0 3, rr G 8 0 1] M21 (kV (fun M34 => Call G 0 0 zX12_fails [rr G 8 0 0, iv 2] M34 (kI (fun x39 M37 => K [iv x39] M37)) noX)) noX)))) noX))) : eX12_readTrips G K X 47 [(0, rr G 8 0 0), (2, iv v2)] [] M := by
  show Ex G zX12_readTrips 4 0 K X 0 47 [(0, rr G 8 0 0), (2, iv v2)] [] M
  refine ev_iload_n (j := 1) dX12_readTrips_47 rfl rfl ?_
  refine ev_aload_n (j := 0) dX12_readTrips_48 rfl rfl ?_
  refine ev_get frX12_343 dX12_readTrips_49 dm8_0 en8_0 rfl ?_
  obtain ⟨s1, s2, h3⟩ := h
  obtain ⟨h4, h5⟩ := h3
  refine ev_icmp_ge 146 dX12_readTrips_52 (by decide) s1 s2 (fun c6 => ?_) (fun c6 => ?_)
  · have h7 := h4 c6
    refine ev_aload_n (j := 0) dX12_readTrips_146 rfl rfl ?_
    refine ev_callVV (As := []) (st := []) mfX12_remembers mlX12_102 dX12_readTrips_147 rfl dm8_0 en8_0 rfl rfl rfl (by decide) (by decide) (by decide) (Nat.le_of_ble_eq_true rfl) (fun _ _ z => z.elim) h7 (fun M8 h9 => ?_)
    refine ev_aload_n (j := 0) dX12_readTrips_150 rfl rfl ?_
    refine ev_get frX12_343 dX12_readTrips_151 dm8_0 en8_0 rfl ?_
    exact ev_iret dX12_readTrips_154 (by decide) rfl h9
  · have h11 := h5 c6
    refine ev_aload_n (j := 0) dX12_readTrips_55 rfl rfl ?_
    refine ev_aload_n (j := 0) dX12_readTrips_56 rfl rfl ?_
    refine ev_get frX12_81 dX12_readTrips_57 dm8_0 en8_0 rfl ?_
    refine ev_iconst dX12_readTrips_60 ?_
    refine ev_iload_n (j := 1) dX12_readTrips_61 rfl rfl ?_
    refine ev_imul dX12_readTrips_62 ?_
    obtain ⟨s12, s13, h14⟩ := h11
    refine ev_iald dX12_readTrips_63 dm8_23 ar8_23 (by decide) s12 s13 ?_
    refine ev_aload_n (j := 0) dX12_readTrips_64 rfl rfl ?_
    refine ev_get frX12_81 dX12_readTrips_65 dm8_0 en8_0 rfl ?_
    refine ev_iconst dX12_readTrips_68 ?_
    refine ev_iload_n (j := 1) dX12_readTrips_69 rfl rfl ?_
    refine ev_imul dX12_readTrips_70 ?_
    refine ev_iconst dX12_readTrips_71 ?_
    refine ev_iadd dX12_readTrips_72 ?_
    obtain ⟨s15, s16, h17⟩ := h14
    refine ev_iald dX12_readTrips_73 dm8_23 ar8_23 (by decide) s15 s16 ?_
    refine ev_aload_n (j := 0) dX12_readTrips_74 rfl rfl ?_
    refine ev_get frX12_81 dX12_readTrips_75 dm8_0 en8_0 rfl ?_
    refine ev_iconst dX12_readTrips_78 ?_
    refine ev_iload_n (j := 1) dX12_readTrips_79 rfl rfl ?_
    refine ev_imul dX12_readTrips_80 ?_
    refine ev_iconst dX12_readTrips_81 ?_
    refine ev_iadd dX12_readTrips_82 ?_
    obtain ⟨s18, s19, h20⟩ := h17
    refine ev_iald dX12_readTrips_83 dm8_23 ar8_23 (by decide) s18 s19 ?_
    refine ev_callVI (As := [iv (M 8 0 23 (3 * v2)), iv (M 8 0 23 ((3 * v2) + 1)), iv (M 8 0 23 ((3 * v2) + 2))]) (st := []) mfX12_tripStops mlX12_158 dX12_readTrips_84 rfl dm8_0 en8_0 rfl rfl rfl (by decide) (by decide) (by decide) (Nat.le_of_ble_eq_true rfl) (fun _ _ z => z.elim) h20 (fun x23 M21 h22 => ?_)
    obtain ⟨s24, h25⟩ := h22
    obtain ⟨h26, h27⟩ := h25
    refine ev_if_le 108 dX12_readTrips_87 (by decide) s24 (fun c28 => ?_) (fun c28 => ?_)
    · have h29 := h26 c28
      refine ev_aload_n (j := 0) dX12_readTrips_108 rfl rfl ?_
      refine ev_aload_n (j := 0) dX12_readTrips_109 rfl rfl ?_
      refine ev_get frX12_81 dX12_readTrips_110 dm8_0 en8_0 rfl ?_
      refine ev_iconst dX12_readTrips_113 ?_
      refine ev_iload_n (j := 1) dX12_readTrips_114 rfl rfl ?_
      refine ev_imul dX12_readTrips_115 ?_
      refine ev_iald dX12_readTrips_116 dm8_23 ar8_23 (by decide) s12 s13 ?_
      refine ev_aload_n (j := 0) dX12_readTrips_117 rfl rfl ?_
      refine ev_get frX12_81 dX12_readTrips_118 dm8_0 en8_0 rfl ?_
      refine ev_iconst dX12_readTrips_121 ?_
      refine ev_iload_n (j := 1) dX12_readTrips_122 rfl rfl ?_
      refine ev_imul dX12_readTrips_123 ?_
      refine ev_iconst dX12_readTrips_124 ?_
      refine ev_iadd dX12_readTrips_125 ?_
      refine ev_iald dX12_readTrips_126 dm8_23 ar8_23 (by decide) s15 s16 ?_
      refine ev_aload_n (j := 0) dX12_readTrips_127 rfl rfl ?_
      refine ev_get frX12_81 dX12_readTrips_128 dm8_0 en8_0 rfl ?_
      refine ev_iconst dX12_readTrips_131 ?_
      refine ev_iload_n (j := 1) dX12_readTrips_132 rfl rfl ?_
      refine ev_imul dX12_readTrips_133 ?_
      refine ev_iconst dX12_readTrips_134 ?_
      refine ev_iadd dX12_readTrips_135 ?_
      refine ev_iald dX12_readTrips_136 dm8_23 ar8_23 (by decide) s18 s19 ?_
      refine ev_callVV (As := [iv (M21 8 0 23 (3 * v2)), iv (M21 8 0 23 ((3 * v2) + 1)), iv (M21 8 0 23 ((3 * v2) + 2))]) (st := []) mfX12_tripComes mlX12_162 dX12_readTrips_137 rfl dm8_0 en8_0 rfl rfl rfl (by decide) (by decide) (by decide) (Nat.le_of_ble_eq_true rfl) (fun _ _ z => z.elim) h29 (fun M30 h31 => ?_)
      refine ev_iinc (j := 1) dX12_readTrips_140 rfl (by decide) rfl ?_
      refine ev_goto 47 dX12_readTrips_143 (by decide) ?_
      exact ev_sub [1, 0] rfl h31
    · have h33 := h27 c28
      refine ev_aload_n (j := 0) dX12_readTrips_90 rfl rfl ?_
      refine ev_aload_n (j := 0) dX12_readTrips_91 rfl rfl ?_
      refine ev_get frX12_16 dX12_readTrips_92 dm8_0 en8_0 rfl ?_
      refine ev_aload_n (j := 0) dX12_readTrips_95 rfl rfl ?_
      refine ev_get frX12_7 dX12_readTrips_96 dm8_0 en8_0 rfl ?_
      refine ev_callVV (As := [rr G 8 0 3, rr G 8 0 1]) (st := []) mfX12_copies mlX12_94 dX12_readTrips_99 rfl dm8_0 en8_0 rfl rfl rfl (by decide) (by decide) (by decide) (Nat.le_of_ble_eq_true rfl) (fun _ _ z => z.elim) h33 (fun M34 h35 => ?_)
      refine ev_aload_n (j := 0) dX12_readTrips_102 rfl rfl ?_
      refine ev_iconst dX12_readTrips_103 ?_
      refine ev_callVI (As := [iv 2]) (st := []) mfX12_fails mlX12_146 dX12_readTrips_104 rfl dm8_0 en8_0 rfl rfl rfl (by decide) (by decide) (by decide) (Nat.le_of_ble_eq_true rfl) (fun _ _ z => z.elim) h35 (fun x39 M37 h38 => ?_)
      exact ev_iret dX12_readTrips_107 (by decide) rfl h38
def eX12_reasonFor (G : GT) (K : List Value → Mem → Prop) (X : String → Mem → Prop) (pc : Nat) (lv : List (Nat × Value)) (st : List Value) (M : Mem) : Prop := Ex G zX12_reasonFor 3 0 K X 0 pc lv st M
set_option maxRecDepth 20000 in
set_option maxHeartbeats 4000000 in
theorem bX12_reasonFor {G : GT} {K : List Value → Mem → Prop} {X : String → Mem → Prop} {M : Mem} {v1 v2 : Int} (h : Call G 0 0 zX12_isActive [rr G 8 0 0, iv v1] M (kI (fun x3 M1 => I32 x3 ∧ ((¬ x3 = 0 → Call G 1 0 zX12_vehicleOf [rr G 8 0 0, iv v1] M1 (kI (fun x12 M10 => I32 x12 ∧ ((x12 < 0 → Call G 1 0 zX12_placeFor [rr G 8 0 0, iv v1, iv v2] M10 (kI (fun x21 M19 => 0 ≤ 171 + v2 ∧ 171 + v2 < 500 ∧ I32 x21 ∧ I32 (M19 8 0 1 (171 + v2)) ∧ ((¬ x21 < (M19 8 0 1 (171 + v2)) → eX12_reasonFor G K X 61 [(0, rr G 8 0 0), (1, iv v1), (2, iv v2), (3, iv x21)] [] M19) ∧ (x21 < (M19 8 0 1 (171 + v2)) → Call G 0 0 zX12_dutyAt [rr G 8 0 0, iv v2, iv x21] M19 (kI (fun x35 M33 => Call G 0 0 zX12_departs [rr G 8 0 0, iv x35] M33 (kI (fun x38 M36 => Call G 0 0 zX12_departs [rr G 8 0 0, iv v1] M36 (kI (fun x41 M39 => I32 x38 ∧ I32 x41 ∧ ((¬ x38 = x41 → eX12_reasonFor G K X 61 [(0, rr G 8 0 0), (1, iv v1), (2, iv v2), (3, iv x21)] [] M39) ∧ (x38 = x41 → K [iv 3] M39)))) noX)) noX)) noX)))) noX) ∧ (¬ x12 < 0 → K [iv 2] M10)))) noX) ∧ (x3 = 0 → K [iv 1] M1)))) noX) : Call G 3 0 zX12_reasonFor [rr G 8 0 0, iv v1, iv v2] M K X := by
  refine call_intro (lv := [(0, rr G 8 0 0), (1, iv v1), (2, iv v2)]) (by decide) rfl (Nat.le_of_ble_eq_true rfl) rfl ?_
  refine ev_aload_n (j := 0) dX12_reasonFor_0 rfl rfl ?_
  refine ev_iload_n (j := 1) dX12_reasonFor_1 rfl rfl ?_
  refine ev_callVI (As := [iv v1]) (st := []) mfX12_isActive mlX12_149 dX12_reasonFor_2 rfl dm8_0 en8_0 rfl rfl rfl (by decide) (by decide) (by decide) (Nat.le_of_ble_eq_true rfl) (fun _ _ z => z.elim) h (fun x3 M1 h2 => ?_)
  obtain ⟨s4, h5⟩ := h2
  obtain ⟨h6, h7⟩ := h5
  refine ev_if_ne 10 dX12_reasonFor_5 (by decide) s4 (fun c8 => ?_) (fun c8 => ?_)
  · have h9 := h6 c8
    refine ev_aload_n (j := 0) dX12_reasonFor_10 rfl rfl ?_
    refine ev_iload_n (j := 1) dX12_reasonFor_11 rfl rfl ?_
    refine ev_callVI (As := [iv v1]) (st := []) mfX12_vehicleOf mlX12_166 dX12_reasonFor_12 rfl dm8_0 en8_0 rfl rfl rfl (by decide) (by decide) (by decide) (Nat.le_of_ble_eq_true rfl) (fun _ _ z => z.elim) h9 (fun x12 M10 h11 => ?_)
    obtain ⟨s13, h14⟩ := h11
    obtain ⟨h15, h16⟩ := h14
    refine ev_if_lt 20 dX12_reasonFor_15 (by decide) s13 (fun c17 => ?_) (fun c17 => ?_)
    · have h18 := h15 c17
      refine ev_aload_n (j := 0) dX12_reasonFor_20 rfl rfl ?_
      refine ev_iload_n (j := 1) dX12_reasonFor_21 rfl rfl ?_
      refine ev_iload_n (j := 2) dX12_reasonFor_22 rfl rfl ?_
      refine ev_callVI (As := [iv v1, iv v2]) (st := []) mfX12_placeFor mlX12_217 dX12_reasonFor_23 rfl dm8_0 en8_0 rfl rfl rfl (by decide) (by decide) (by decide) (Nat.le_of_ble_eq_true rfl) (fun _ _ z => z.elim) h18 (fun x21 M19 h20 => ?_)
      refine ev_istore_n dX12_reasonFor_26 rfl (by decide) rfl ?_
      refine ev_iload_n (j := 0) dX12_reasonFor_27 rfl rfl ?_
      refine ev_aload_n (j := 1) dX12_reasonFor_28 rfl rfl ?_
      refine ev_get frX12_7 dX12_reasonFor_29 dm8_0 en8_0 rfl ?_
      refine ev_sipush dX12_reasonFor_32 (by decide) ?_
      refine ev_iload_n (j := 3) dX12_reasonFor_35 rfl rfl ?_
      refine ev_iadd dX12_reasonFor_36 ?_
      obtain ⟨s22, s23, h24⟩ := h20
      refine ev_iald dX12_reasonFor_37 dm8_1 ar8_1 (by decide) s22 s23 ?_
      obtain ⟨s25, s26, h27⟩ := h24
      obtain ⟨h28, h29⟩ := h27
      refine ev_icmp_ge 61 dX12_reasonFor_38 (by decide) s25 s26 (fun c30 => ?_) (fun c30 => ?_)
      · have h31 := h28 c30
        exact ev_sub [1, 2, 3, 0] rfl h31
      · have h32 := h29 c30
        refine ev_aload_n (j := 1) dX12_reasonFor_41 rfl rfl ?_
        refine ev_aload_n (j := 1) dX12_reasonFor_42 rfl rfl ?_
        refine ev_iload_n (j := 3) dX12_reasonFor_43 rfl rfl ?_
        refine ev_iload_n (j := 0) dX12_reasonFor_44 rfl rfl ?_
        refine ev_callVI (As := [iv v2, iv x21]) (st := [rr G 8 0 0]) mfX12_dutyAt mlX12_126 dX12_reasonFor_45 rfl dm8_0 en8_0 rfl rfl rfl (by decide) (by decide) (by decide) (Nat.le_of_ble_eq_true rfl) (fun _ _ z => z.elim) h32 (fun x35 M33 h34 => ?_)
        refine ev_callVI (As := [iv x35]) (st := []) mfX12_departs mlX12_109 dX12_reasonFor_48 rfl dm8_0 en8_0 rfl rfl rfl (by decide) (by decide) (by decide) (Nat.le_of_ble_eq_true rfl) (fun _ _ z => z.elim) h34 (fun x38 M36 h37 => ?_)
        refine ev_aload_n (j := 1) dX12_reasonFor_51 rfl rfl ?_
        refine ev_iload_n (j := 2) dX12_reasonFor_52 rfl rfl ?_
        refine ev_callVI (As := [iv v1]) (st := [iv x38]) mfX12_departs mlX12_109 dX12_reasonFor_53 rfl dm8_0 en8_0 rfl rfl rfl (by decide) (by decide) (by decide) (Nat.le_of_ble_eq_true rfl) (fun _ _ z => z.elim) h37 (fun x41 M39 h40 => ?_)
        obtain ⟨s42, s43, h44⟩ := h40
        obtain ⟨h45, h46⟩ := h44
        refine ev_icmp_ne 61 dX12_reasonFor_56 (by decide) s42 s43 (fun c47 => ?_) (fun c47 => ?_)
        · have h48 := h45 c47
          exact ev_sub [1, 2, 3, 0] rfl h48
        · have h49 := h46 c47
          refine ev_iconst dX12_reasonFor_59 ?_
          exact ev_iret dX12_reasonFor_60 (by decide) rfl h49
    · have h50 := h16 c17
      refine ev_iconst dX12_reasonFor_18 ?_
      exact ev_iret dX12_reasonFor_19 (by decide) rfl h50
  · have h51 := h7 c8
    refine ev_iconst dX12_reasonFor_8 ?_
    exact ev_iret dX12_reasonFor_9 (by decide) rfl h51
set_option maxRecDepth 20000 in
set_option maxHeartbeats 4000000 in
theorem bX12_reasonFor_61 {G : GT} {K : List Value → Mem → Prop} {X : String → Mem → Prop} {M : Mem} {v1 v2 v3 : Int} (h : I32 v3 ∧ ((¬ 0 < v3 → eX12_reasonFor G K X 83 [(0, rr G 8 0 0), (1, iv v1), (2, iv v2), (3, iv v3)] [] M) ∧ (0 < v3 → Call G 0 0 zX12_dutyAt [rr G 8 0 0, iv v2, iv (v3 - 1)] M (kI (fun x10 M8 => Call G 2 0 zX12_follows [rr G 8 0 0, iv x10, iv v1] M8 (kI (fun x13 M11 => I32 x13 ∧ ((¬ x13 = 0 → eX12_reasonFor G K X 83 [(0, rr G 8 0 0), (1, iv v1), (2, iv v2), (3, iv v3)] [] M11) ∧ (x13 = 0 → K [iv 4] M11)))) noX)) noX))) : eX12_reasonFor G K X 61 [(0, rr G 8 0 0), (1, iv v1), (2, iv v2), (3, iv v3)] [] M := by
  show Ex G zX12_reasonFor 3 0 K X 0 61 [(0, rr G 8 0 0), (1, iv v1), (2, iv v2), (3, iv v3)] [] M
  refine ev_iload_n (j := 3) dX12_reasonFor_61 rfl rfl ?_
  obtain ⟨s1, h2⟩ := h
  obtain ⟨h3, h4⟩ := h2
  refine ev_if_le 83 dX12_reasonFor_62 (by decide) s1 (fun c5 => ?_) (fun c5 => ?_)
  · have h6 := h3 c5
    exact ev_sub [0, 1, 2, 3] rfl h6
  · have h7 := h4 c5
    refine ev_aload_n (j := 0) dX12_reasonFor_65 rfl rfl ?_
    refine ev_aload_n (j := 0) dX12_reasonFor_66 rfl rfl ?_
    refine ev_iload_n (j := 2) dX12_reasonFor_67 rfl rfl ?_
    refine ev_iload_n (j := 3) dX12_reasonFor_68 rfl rfl ?_
    refine ev_iconst dX12_reasonFor_69 ?_
    refine ev_isub dX12_reasonFor_70 ?_
    refine ev_callVI (As := [iv v2, iv (v3 - 1)]) (st := [rr G 8 0 0]) mfX12_dutyAt mlX12_126 dX12_reasonFor_71 rfl dm8_0 en8_0 rfl rfl rfl (by decide) (by decide) (by decide) (Nat.le_of_ble_eq_true rfl) (fun _ _ z => z.elim) h7 (fun x10 M8 h9 => ?_)
    refine ev_iload_n (j := 1) dX12_reasonFor_74 rfl rfl ?_
    refine ev_callVI (As := [iv x10, iv v1]) (st := []) mfX12_follows mlX12_132 dX12_reasonFor_75 rfl dm8_0 en8_0 rfl rfl rfl (by decide) (by decide) (by decide) (Nat.le_of_ble_eq_true rfl) (fun _ _ z => z.elim) h9 (fun x13 M11 h12 => ?_)
    obtain ⟨s14, h15⟩ := h12
    obtain ⟨h16, h17⟩ := h15
    refine ev_if_ne 83 dX12_reasonFor_78 (by decide) s14 (fun c18 => ?_) (fun c18 => ?_)
    · have h19 := h16 c18
      exact ev_sub [0, 1, 2, 3] rfl h19
    · have h20 := h17 c18
      refine ev_iconst dX12_reasonFor_81 ?_
      exact ev_iret dX12_reasonFor_82 (by decide) rfl h20
set_option maxRecDepth 20000 in
set_option maxHeartbeats 4000000 in
theorem bX12_reasonFor_83 {G : GT} {K : List Value → Mem → Prop} {X : String → Mem → Prop} {M : Mem} {v1 v2 v3 : Int} (h : 0 ≤ 171 + v2 ∧ 171 + v2 < 500 ∧ I32 v3 ∧ I32 (M 8 0 1 (171 + v2)) ∧ ((¬ v3 < (M 8 0 1 (171 + v2)) → eX12_reasonFor G K X 113 [(0, rr G 8 0 0), (1, iv v1), (2, iv v2), (3, iv v3)] [] M) ∧ (v3 < (M 8 0 1 (171 + v2)) → Call G 0 0 zX12_dutyAt [rr G 8 0 0, iv v2, iv v3] M (kI (fun x14 M12 => Call G 2 0 zX12_follows [rr G 8 0 0, iv v1, iv x14] M12 (kI (fun x17 M15 => I32 x17 ∧ ((¬ x17 = 0 → eX12_reasonFor G K X 113 [(0, rr G 8 0 0), (1, iv v1), (2, iv v2), (3, iv v3)] [] M15) ∧ (x17 = 0 → K [iv 5] M15)))) noX)) noX))) : eX12_reasonFor G K X 83 [(0, rr G 8 0 0), (1, iv v1), (2, iv v2), (3, iv v3)] [] M := by
  show Ex G zX12_reasonFor 3 0 K X 0 83 [(0, rr G 8 0 0), (1, iv v1), (2, iv v2), (3, iv v3)] [] M
  refine ev_iload_n (j := 3) dX12_reasonFor_83 rfl rfl ?_
  refine ev_aload_n (j := 0) dX12_reasonFor_84 rfl rfl ?_
  refine ev_get frX12_7 dX12_reasonFor_85 dm8_0 en8_0 rfl ?_
  refine ev_sipush dX12_reasonFor_88 (by decide) ?_
  refine ev_iload_n (j := 2) dX12_reasonFor_91 rfl rfl ?_
  refine ev_iadd dX12_reasonFor_92 ?_
  obtain ⟨s1, s2, h3⟩ := h
  refine ev_iald dX12_reasonFor_93 dm8_1 ar8_1 (by decide) s1 s2 ?_
  obtain ⟨s4, s5, h6⟩ := h3
  obtain ⟨h7, h8⟩ := h6
  refine ev_icmp_ge 113 dX12_reasonFor_94 (by decide) s4 s5 (fun c9 => ?_) (fun c9 => ?_)
  · have h10 := h7 c9
    exact ev_sub [0, 1, 2, 3] rfl h10
  · have h11 := h8 c9
    refine ev_aload_n (j := 0) dX12_reasonFor_97 rfl rfl ?_
    refine ev_iload_n (j := 1) dX12_reasonFor_98 rfl rfl ?_
    refine ev_aload_n (j := 0) dX12_reasonFor_99 rfl rfl ?_
    refine ev_iload_n (j := 2) dX12_reasonFor_100 rfl rfl ?_
    refine ev_iload_n (j := 3) dX12_reasonFor_101 rfl rfl ?_
    refine ev_callVI (As := [iv v2, iv v3]) (st := [iv v1, rr G 8 0 0]) mfX12_dutyAt mlX12_126 dX12_reasonFor_102 rfl dm8_0 en8_0 rfl rfl rfl (by decide) (by decide) (by decide) (Nat.le_of_ble_eq_true rfl) (fun _ _ z => z.elim) h11 (fun x14 M12 h13 => ?_)
    refine ev_callVI (As := [iv v1, iv x14]) (st := []) mfX12_follows mlX12_132 dX12_reasonFor_105 rfl dm8_0 en8_0 rfl rfl rfl (by decide) (by decide) (by decide) (Nat.le_of_ble_eq_true rfl) (fun _ _ z => z.elim) h13 (fun x17 M15 h16 => ?_)
    obtain ⟨s18, h19⟩ := h16
    obtain ⟨h20, h21⟩ := h19
    refine ev_if_ne 113 dX12_reasonFor_108 (by decide) s18 (fun c22 => ?_) (fun c22 => ?_)
    · have h23 := h20 c22
      exact ev_sub [0, 1, 2, 3] rfl h23
    · have h24 := h21 c22
      refine ev_iconst dX12_reasonFor_111 ?_
      exact ev_iret dX12_reasonFor_112 (by decide) rfl h24
set_option maxRecDepth 20000 in
set_option maxHeartbeats 4000000 in
theorem bX12_reasonFor_113 {G : GT} {K : List Value → Mem → Prop} {X : String → Mem → Prop} {M : Mem} {v1 v2 v3 : Int} (h : I32 v3 ∧ ((¬ v3 = 0 → eX12_reasonFor G K X 135 [] [] M) ∧ (v3 = 0 → Call G 0 0 zX12_first [rr G 8 0 0, iv v1] M (kI (fun x10 M8 => Call G 0 0 zX12_homeStop [rr G 8 0 0, iv v2] M8 (kI (fun x13 M11 => I32 x10 ∧ I32 x13 ∧ ((x10 = x13 → eX12_reasonFor G K X 135 [] [] M11) ∧ (¬ x10 = x13 → eX12_reasonFor G K X 136 [] [iv 6] M11)))) noX)) noX))) : eX12_reasonFor G K X 113 [(0, rr G 8 0 0), (1, iv v1), (2, iv v2), (3, iv v3)] [] M := by
  show Ex G zX12_reasonFor 3 0 K X 0 113 [(0, rr G 8 0 0), (1, iv v1), (2, iv v2), (3, iv v3)] [] M
  refine ev_iload_n (j := 3) dX12_reasonFor_113 rfl rfl ?_
  obtain ⟨s1, h2⟩ := h
  obtain ⟨h3, h4⟩ := h2
  refine ev_if_ne 135 dX12_reasonFor_114 (by decide) s1 (fun c5 => ?_) (fun c5 => ?_)
  · have h6 := h3 c5
    exact ev_sub [] rfl h6
  · have h7 := h4 c5
    refine ev_aload_n (j := 0) dX12_reasonFor_117 rfl rfl ?_
    refine ev_iload_n (j := 1) dX12_reasonFor_118 rfl rfl ?_
    refine ev_callVI (As := [iv v1]) (st := []) mfX12_first mlX12_113 dX12_reasonFor_119 rfl dm8_0 en8_0 rfl rfl rfl (by decide) (by decide) (by decide) (Nat.le_of_ble_eq_true rfl) (fun _ _ z => z.elim) h7 (fun x10 M8 h9 => ?_)
    refine ev_aload_n (j := 0) dX12_reasonFor_122 rfl rfl ?_
    refine ev_iload_n (j := 2) dX12_reasonFor_123 rfl rfl ?_
    refine ev_callVI (As := [iv v2]) (st := [iv x10]) mfX12_homeStop mlX12_129 dX12_reasonFor_124 rfl dm8_0 en8_0 rfl rfl rfl (by decide) (by decide) (by decide) (Nat.le_of_ble_eq_true rfl) (fun _ _ z => z.elim) h9 (fun x13 M11 h12 => ?_)
    obtain ⟨s14, s15, h16⟩ := h12
    obtain ⟨h17, h18⟩ := h16
    refine ev_icmp_eq 135 dX12_reasonFor_127 (by decide) s14 s15 (fun c19 => ?_) (fun c19 => ?_)
    · have h20 := h17 c19
      exact ev_sub [] rfl h20
    · have h21 := h18 c19
      refine ev_bipush dX12_reasonFor_130 (by decide) ?_
      refine ev_goto 136 dX12_reasonFor_132 (by decide) ?_
      exact ev_sub [] rfl h21
set_option maxRecDepth 20000 in
set_option maxHeartbeats 4000000 in
theorem bX12_reasonFor_135 {G : GT} {K : List Value → Mem → Prop} {X : String → Mem → Prop} {M : Mem} (h : eX12_reasonFor G K X 136 [] [iv 0] M) : eX12_reasonFor G K X 135 [] [] M := by
  show Ex G zX12_reasonFor 3 0 K X 0 135 [] [] M
  refine ev_iconst dX12_reasonFor_135 ?_
  exact ev_sub [] rfl h
set_option maxRecDepth 20000 in
set_option maxHeartbeats 4000000 in
theorem bX12_reasonFor_136 {G : GT} {K : List Value → Mem → Prop} {X : String → Mem → Prop} {M : Mem} {w0 : Int} (h : K [iv w0] M) : eX12_reasonFor G K X 136 [] [iv w0] M := by
  show Ex G zX12_reasonFor 3 0 K X 0 136 [] [iv w0] M
  exact ev_iret dX12_reasonFor_136 (by decide) rfl h
def eX12_reasonForRound (G : GT) (K : List Value → Mem → Prop) (X : String → Mem → Prop) (pc : Nat) (lv : List (Nat × Value)) (st : List Value) (M : Mem) : Prop := Ex G zX12_reasonForRound 3 0 K X 0 pc lv st M
set_option maxRecDepth 20000 in
set_option maxHeartbeats 4000000 in
theorem bX12_reasonForRound {G : GT} {K : List Value → Mem → Prop} {X : String → Mem → Prop} {M : Mem} {v1 v2 v3 : Int} (h : Call G 0 0 zX12_isActive [rr G 8 0 0, iv v1] M (kI (fun x3 M1 => I32 x3 ∧ ((x3 = 0 → eX12_reasonForRound G K X 21 [] [] M1) ∧ (¬ x3 = 0 → Call G 0 0 zX12_isActive [rr G 8 0 0, iv v2] M1 (kI (fun x13 M11 => I32 x13 ∧ ((x13 = 0 → eX12_reasonForRound G K X 21 [] [] M11) ∧ (¬ x13 = 0 → I32 v1 ∧ I32 v2 ∧ ((¬ v1 = v2 → Call G 1 0 zX12_vehicleOf [rr G 8 0 0, iv v1] M11 (kI (fun x30 M28 => I32 x30 ∧ ((¬ x30 < 0 → eX12_reasonForRound G K X 39 [] [] M28) ∧ (x30 < 0 → Call G 1 0 zX12_vehicleOf [rr G 8 0 0, iv v2] M28 (kI (fun x40 M38 => I32 x40 ∧ ((x40 < 0 → Call G 2 0 zX12_follows [rr G 8 0 0, iv v1, iv v2] M38 (kI (fun x49 M47 => I32 x49 ∧ ((¬ x49 = 0 → Call G 1 0 zX12_placeFor [rr G 8 0 0, iv v1, iv v3] M47 (kI (fun x58 M56 => 0 ≤ 171 + v3 ∧ 171 + v3 < 500 ∧ I32 x58 ∧ I32 (M56 8 0 1 (171 + v3)) ∧ ((¬ x58 < (M56 8 0 1 (171 + v3)) → eX12_reasonForRound G K X 97 [(0, rr G 8 0 0), (1, iv v1), (2, iv v2), (3, iv v3), (4, iv x58)] [] M56) ∧ (x58 < (M56 8 0 1 (171 + v3)) → Call G 0 0 zX12_dutyAt [rr G 8 0 0, iv v3, iv x58] M56 (kI (fun x72 M70 => Call G 0 0 zX12_departs [rr G 8 0 0, iv x72] M70 (kI (fun x75 M73 => Call G 0 0 zX12_departs [rr G 8 0 0, iv v1] M73 (kI (fun x78 M76 => I32 x75 ∧ I32 x78 ∧ ((¬ x75 = x78 → eX12_reasonForRound G K X 97 [(0, rr G 8 0 0), (1, iv v1), (2, iv v2), (3, iv v3), (4, iv x58)] [] M76) ∧ (x75 = x78 → K [iv 3] M76)))) noX)) noX)) noX)))) noX) ∧ (x49 = 0 → K [iv 7] M47)))) noX) ∧ (¬ x40 < 0 → eX12_reasonForRound G K X 39 [] [] M38)))) noX)))) noX) ∧ (v1 = v2 → eX12_reasonForRound G K X 21 [] [] M11)))))) noX)))) noX) : Call G 3 0 zX12_reasonForRound [rr G 8 0 0, iv v1, iv v2, iv v3] M K X := by
  refine call_intro (lv := [(0, rr G 8 0 0), (1, iv v1), (2, iv v2), (3, iv v3)]) (by decide) rfl (Nat.le_of_ble_eq_true rfl) rfl ?_
  refine ev_aload_n (j := 0) dX12_reasonForRound_0 rfl rfl ?_
  refine ev_iload_n (j := 1) dX12_reasonForRound_1 rfl rfl ?_
  refine ev_callVI (As := [iv v1]) (st := []) mfX12_isActive mlX12_149 dX12_reasonForRound_2 rfl dm8_0 en8_0 rfl rfl rfl (by decide) (by decide) (by decide) (Nat.le_of_ble_eq_true rfl) (fun _ _ z => z.elim) h (fun x3 M1 h2 => ?_)
  obtain ⟨s4, h5⟩ := h2
  obtain ⟨h6, h7⟩ := h5
  refine ev_if_eq 21 dX12_reasonForRound_5 (by decide) s4 (fun c8 => ?_) (fun c8 => ?_)
  · have h9 := h6 c8
    exact ev_sub [] rfl h9
  · have h10 := h7 c8
    refine ev_aload_n (j := 0) dX12_reasonForRound_8 rfl rfl ?_
    refine ev_iload_n (j := 2) dX12_reasonForRound_9 rfl rfl ?_
    refine ev_callVI (As := [iv v2]) (st := []) mfX12_isActive mlX12_149 dX12_reasonForRound_10 rfl dm8_0 en8_0 rfl rfl rfl (by decide) (by decide) (by decide) (Nat.le_of_ble_eq_true rfl) (fun _ _ z => z.elim) h10 (fun x13 M11 h12 => ?_)
    obtain ⟨s14, h15⟩ := h12
    obtain ⟨h16, h17⟩ := h15
    refine ev_if_eq 21 dX12_reasonForRound_13 (by decide) s14 (fun c18 => ?_) (fun c18 => ?_)
    · have h19 := h16 c18
      exact ev_sub [] rfl h19
    · have h20 := h17 c18
      refine ev_iload_n (j := 1) dX12_reasonForRound_16 rfl rfl ?_
      refine ev_iload_n (j := 2) dX12_reasonForRound_17 rfl rfl ?_
      obtain ⟨s21, s22, h23⟩ := h20
      obtain ⟨h24, h25⟩ := h23
      refine ev_icmp_ne 23 dX12_reasonForRound_18 (by decide) s21 s22 (fun c26 => ?_) (fun c26 => ?_)
      · have h27 := h24 c26
        refine ev_aload_n (j := 0) dX12_reasonForRound_23 rfl rfl ?_
        refine ev_iload_n (j := 1) dX12_reasonForRound_24 rfl rfl ?_
        refine ev_callVI (As := [iv v1]) (st := []) mfX12_vehicleOf mlX12_166 dX12_reasonForRound_25 rfl dm8_0 en8_0 rfl rfl rfl (by decide) (by decide) (by decide) (Nat.le_of_ble_eq_true rfl) (fun _ _ z => z.elim) h27 (fun x30 M28 h29 => ?_)
        obtain ⟨s31, h32⟩ := h29
        obtain ⟨h33, h34⟩ := h32
        refine ev_if_ge 39 dX12_reasonForRound_28 (by decide) s31 (fun c35 => ?_) (fun c35 => ?_)
        · have h36 := h33 c35
          exact ev_sub [] rfl h36
        · have h37 := h34 c35
          refine ev_aload_n (j := 0) dX12_reasonForRound_31 rfl rfl ?_
          refine ev_iload_n (j := 2) dX12_reasonForRound_32 rfl rfl ?_
          refine ev_callVI (As := [iv v2]) (st := []) mfX12_vehicleOf mlX12_166 dX12_reasonForRound_33 rfl dm8_0 en8_0 rfl rfl rfl (by decide) (by decide) (by decide) (Nat.le_of_ble_eq_true rfl) (fun _ _ z => z.elim) h37 (fun x40 M38 h39 => ?_)
          obtain ⟨s41, h42⟩ := h39
          obtain ⟨h43, h44⟩ := h42
          refine ev_if_lt 41 dX12_reasonForRound_36 (by decide) s41 (fun c45 => ?_) (fun c45 => ?_)
          · have h46 := h43 c45
            refine ev_aload_n (j := 0) dX12_reasonForRound_41 rfl rfl ?_
            refine ev_iload_n (j := 1) dX12_reasonForRound_42 rfl rfl ?_
            refine ev_iload_n (j := 2) dX12_reasonForRound_43 rfl rfl ?_
            refine ev_callVI (As := [iv v1, iv v2]) (st := []) mfX12_follows mlX12_132 dX12_reasonForRound_44 rfl dm8_0 en8_0 rfl rfl rfl (by decide) (by decide) (by decide) (Nat.le_of_ble_eq_true rfl) (fun _ _ z => z.elim) h46 (fun x49 M47 h48 => ?_)
            obtain ⟨s50, h51⟩ := h48
            obtain ⟨h52, h53⟩ := h51
            refine ev_if_ne 53 dX12_reasonForRound_47 (by decide) s50 (fun c54 => ?_) (fun c54 => ?_)
            · have h55 := h52 c54
              refine ev_aload_n (j := 0) dX12_reasonForRound_53 rfl rfl ?_
              refine ev_iload_n (j := 1) dX12_reasonForRound_54 rfl rfl ?_
              refine ev_iload_n (j := 3) dX12_reasonForRound_55 rfl rfl ?_
              refine ev_callVI (As := [iv v1, iv v3]) (st := []) mfX12_placeFor mlX12_217 dX12_reasonForRound_56 rfl dm8_0 en8_0 rfl rfl rfl (by decide) (by decide) (by decide) (Nat.le_of_ble_eq_true rfl) (fun _ _ z => z.elim) h55 (fun x58 M56 h57 => ?_)
              refine ev_istore dX12_reasonForRound_59 (by decide) rfl ?_
              refine ev_iload (j := 0) dX12_reasonForRound_61 rfl ?_
              refine ev_aload_n (j := 1) dX12_reasonForRound_63 rfl rfl ?_
              refine ev_get frX12_7 dX12_reasonForRound_64 dm8_0 en8_0 rfl ?_
              refine ev_sipush dX12_reasonForRound_67 (by decide) ?_
              refine ev_iload_n (j := 4) dX12_reasonForRound_70 rfl rfl ?_
              refine ev_iadd dX12_reasonForRound_71 ?_
              obtain ⟨s59, s60, h61⟩ := h57
              refine ev_iald dX12_reasonForRound_72 dm8_1 ar8_1 (by decide) s59 s60 ?_
              obtain ⟨s62, s63, h64⟩ := h61
              obtain ⟨h65, h66⟩ := h64
              refine ev_icmp_ge 97 dX12_reasonForRound_73 (by decide) s62 s63 (fun c67 => ?_) (fun c67 => ?_)
              · have h68 := h65 c67
                exact ev_sub [1, 2, 3, 4, 0] rfl h68
              · have h69 := h66 c67
                refine ev_aload_n (j := 1) dX12_reasonForRound_76 rfl rfl ?_
                refine ev_aload_n (j := 1) dX12_reasonForRound_77 rfl rfl ?_
                refine ev_iload_n (j := 4) dX12_reasonForRound_78 rfl rfl ?_
                refine ev_iload (j := 0) dX12_reasonForRound_79 rfl ?_
                refine ev_callVI (As := [iv v3, iv x58]) (st := [rr G 8 0 0]) mfX12_dutyAt mlX12_126 dX12_reasonForRound_81 rfl dm8_0 en8_0 rfl rfl rfl (by decide) (by decide) (by decide) (Nat.le_of_ble_eq_true rfl) (fun _ _ z => z.elim) h69 (fun x72 M70 h71 => ?_)
                refine ev_callVI (As := [iv x72]) (st := []) mfX12_departs mlX12_109 dX12_reasonForRound_84 rfl dm8_0 en8_0 rfl rfl rfl (by decide) (by decide) (by decide) (Nat.le_of_ble_eq_true rfl) (fun _ _ z => z.elim) h71 (fun x75 M73 h74 => ?_)
                refine ev_aload_n (j := 1) dX12_reasonForRound_87 rfl rfl ?_
                refine ev_iload_n (j := 2) dX12_reasonForRound_88 rfl rfl ?_
                refine ev_callVI (As := [iv v1]) (st := [iv x75]) mfX12_departs mlX12_109 dX12_reasonForRound_89 rfl dm8_0 en8_0 rfl rfl rfl (by decide) (by decide) (by decide) (Nat.le_of_ble_eq_true rfl) (fun _ _ z => z.elim) h74 (fun x78 M76 h77 => ?_)
                obtain ⟨s79, s80, h81⟩ := h77
                obtain ⟨h82, h83⟩ := h81
                refine ev_icmp_ne 97 dX12_reasonForRound_92 (by decide) s79 s80 (fun c84 => ?_) (fun c84 => ?_)
                · have h85 := h82 c84
                  exact ev_sub [1, 2, 3, 4, 0] rfl h85
                · have h86 := h83 c84
                  refine ev_iconst dX12_reasonForRound_95 ?_
                  exact ev_iret dX12_reasonForRound_96 (by decide) rfl h86
            · have h87 := h53 c54
              refine ev_bipush dX12_reasonForRound_50 (by decide) ?_
              exact ev_iret dX12_reasonForRound_52 (by decide) rfl h87
          · have h88 := h44 c45
            exact ev_sub [] rfl h88
      · have h89 := h25 c26
        exact ev_sub [] rfl h89
set_option maxRecDepth 20000 in
set_option maxHeartbeats 4000000 in
theorem bX12_reasonForRound_21 {G : GT} {K : List Value → Mem → Prop} {X : String → Mem → Prop} {M : Mem} (h : K [iv 1] M) : eX12_reasonForRound G K X 21 [] [] M := by
  show Ex G zX12_reasonForRound 3 0 K X 0 21 [] [] M
  refine ev_iconst dX12_reasonForRound_21 ?_
  exact ev_iret dX12_reasonForRound_22 (by decide) rfl h
set_option maxRecDepth 20000 in
set_option maxHeartbeats 4000000 in
theorem bX12_reasonForRound_39 {G : GT} {K : List Value → Mem → Prop} {X : String → Mem → Prop} {M : Mem} (h : K [iv 2] M) : eX12_reasonForRound G K X 39 [] [] M := by
  show Ex G zX12_reasonForRound 3 0 K X 0 39 [] [] M
  refine ev_iconst dX12_reasonForRound_39 ?_
  exact ev_iret dX12_reasonForRound_40 (by decide) rfl h
set_option maxRecDepth 20000 in
set_option maxHeartbeats 4000000 in
theorem bX12_reasonForRound_97 {G : GT} {K : List Value → Mem → Prop} {X : String → Mem → Prop} {M : Mem} {v1 v2 v3 v4 : Int} (h : I32 v4 ∧ ((¬ 0 < v4 → eX12_reasonForRound G K X 121 [(0, rr G 8 0 0), (1, iv v1), (2, iv v2), (3, iv v3), (4, iv v4)] [] M) ∧ (0 < v4 → Call G 0 0 zX12_dutyAt [rr G 8 0 0, iv v3, iv (v4 - 1)] M (kI (fun x10 M8 => Call G 2 0 zX12_follows [rr G 8 0 0, iv x10, iv v1] M8 (kI (fun x13 M11 => I32 x13 ∧ ((¬ x13 = 0 → eX12_reasonForRound G K X 121 [(0, rr G 8 0 0), (1, iv v1), (2, iv v2), (3, iv v3), (4, iv v4)] [] M11) ∧ (x13 = 0 → K [iv 4] M11)))) noX)) noX))) : eX12_reasonForRound G K X 97 [(0, rr G 8 0 0), (1, iv v1), (2, iv v2), (3, iv v3), (4, iv v4)] [] M := by
  show Ex G zX12_reasonForRound 3 0 K X 0 97 [(0, rr G 8 0 0), (1, iv v1), (2, iv v2), (3, iv v3), (4, iv v4)] [] M
  refine ev_iload (j := 4) dX12_reasonForRound_97 rfl ?_
  obtain ⟨s1, h2⟩ := h
  obtain ⟨h3, h4⟩ := h2
  refine ev_if_le 121 dX12_reasonForRound_99 (by decide) s1 (fun c5 => ?_) (fun c5 => ?_)
  · have h6 := h3 c5
    exact ev_sub [0, 1, 2, 3, 4] rfl h6
  · have h7 := h4 c5
    refine ev_aload_n (j := 0) dX12_reasonForRound_102 rfl rfl ?_
    refine ev_aload_n (j := 0) dX12_reasonForRound_103 rfl rfl ?_
    refine ev_iload_n (j := 3) dX12_reasonForRound_104 rfl rfl ?_
    refine ev_iload (j := 4) dX12_reasonForRound_105 rfl ?_
    refine ev_iconst dX12_reasonForRound_107 ?_
    refine ev_isub dX12_reasonForRound_108 ?_
    refine ev_callVI (As := [iv v3, iv (v4 - 1)]) (st := [rr G 8 0 0]) mfX12_dutyAt mlX12_126 dX12_reasonForRound_109 rfl dm8_0 en8_0 rfl rfl rfl (by decide) (by decide) (by decide) (Nat.le_of_ble_eq_true rfl) (fun _ _ z => z.elim) h7 (fun x10 M8 h9 => ?_)
    refine ev_iload_n (j := 1) dX12_reasonForRound_112 rfl rfl ?_
    refine ev_callVI (As := [iv x10, iv v1]) (st := []) mfX12_follows mlX12_132 dX12_reasonForRound_113 rfl dm8_0 en8_0 rfl rfl rfl (by decide) (by decide) (by decide) (Nat.le_of_ble_eq_true rfl) (fun _ _ z => z.elim) h9 (fun x13 M11 h12 => ?_)
    obtain ⟨s14, h15⟩ := h12
    obtain ⟨h16, h17⟩ := h15
    refine ev_if_ne 121 dX12_reasonForRound_116 (by decide) s14 (fun c18 => ?_) (fun c18 => ?_)
    · have h19 := h16 c18
      exact ev_sub [0, 1, 2, 3, 4] rfl h19
    · have h20 := h17 c18
      refine ev_iconst dX12_reasonForRound_119 ?_
      exact ev_iret dX12_reasonForRound_120 (by decide) rfl h20
set_option maxRecDepth 20000 in
set_option maxHeartbeats 4000000 in
theorem bX12_reasonForRound_121 {G : GT} {K : List Value → Mem → Prop} {X : String → Mem → Prop} {M : Mem} {v1 v2 v3 v4 : Int} (h : 0 ≤ 171 + v3 ∧ 171 + v3 < 500 ∧ I32 v4 ∧ I32 (M 8 0 1 (171 + v3)) ∧ ((¬ v4 < (M 8 0 1 (171 + v3)) → eX12_reasonForRound G K X 153 [(0, rr G 8 0 0), (1, iv v1), (3, iv v3), (4, iv v4)] [] M) ∧ (v4 < (M 8 0 1 (171 + v3)) → Call G 0 0 zX12_dutyAt [rr G 8 0 0, iv v3, iv v4] M (kI (fun x14 M12 => Call G 2 0 zX12_follows [rr G 8 0 0, iv v2, iv x14] M12 (kI (fun x17 M15 => I32 x17 ∧ ((¬ x17 = 0 → eX12_reasonForRound G K X 153 [(0, rr G 8 0 0), (1, iv v1), (3, iv v3), (4, iv v4)] [] M15) ∧ (x17 = 0 → K [iv 5] M15)))) noX)) noX))) : eX12_reasonForRound G K X 121 [(0, rr G 8 0 0), (1, iv v1), (2, iv v2), (3, iv v3), (4, iv v4)] [] M := by
  show Ex G zX12_reasonForRound 3 0 K X 0 121 [(0, rr G 8 0 0), (1, iv v1), (2, iv v2), (3, iv v3), (4, iv v4)] [] M
  refine ev_iload (j := 4) dX12_reasonForRound_121 rfl ?_
  refine ev_aload_n (j := 0) dX12_reasonForRound_123 rfl rfl ?_
  refine ev_get frX12_7 dX12_reasonForRound_124 dm8_0 en8_0 rfl ?_
  refine ev_sipush dX12_reasonForRound_127 (by decide) ?_
  refine ev_iload_n (j := 3) dX12_reasonForRound_130 rfl rfl ?_
  refine ev_iadd dX12_reasonForRound_131 ?_
  obtain ⟨s1, s2, h3⟩ := h
  refine ev_iald dX12_reasonForRound_132 dm8_1 ar8_1 (by decide) s1 s2 ?_
  obtain ⟨s4, s5, h6⟩ := h3
  obtain ⟨h7, h8⟩ := h6
  refine ev_icmp_ge 153 dX12_reasonForRound_133 (by decide) s4 s5 (fun c9 => ?_) (fun c9 => ?_)
  · have h10 := h7 c9
    exact ev_sub [0, 1, 3, 4] rfl h10
  · have h11 := h8 c9
    refine ev_aload_n (j := 0) dX12_reasonForRound_136 rfl rfl ?_
    refine ev_iload_n (j := 2) dX12_reasonForRound_137 rfl rfl ?_
    refine ev_aload_n (j := 0) dX12_reasonForRound_138 rfl rfl ?_
    refine ev_iload_n (j := 3) dX12_reasonForRound_139 rfl rfl ?_
    refine ev_iload (j := 4) dX12_reasonForRound_140 rfl ?_
    refine ev_callVI (As := [iv v3, iv v4]) (st := [iv v2, rr G 8 0 0]) mfX12_dutyAt mlX12_126 dX12_reasonForRound_142 rfl dm8_0 en8_0 rfl rfl rfl (by decide) (by decide) (by decide) (Nat.le_of_ble_eq_true rfl) (fun _ _ z => z.elim) h11 (fun x14 M12 h13 => ?_)
    refine ev_callVI (As := [iv v2, iv x14]) (st := []) mfX12_follows mlX12_132 dX12_reasonForRound_145 rfl dm8_0 en8_0 rfl rfl rfl (by decide) (by decide) (by decide) (Nat.le_of_ble_eq_true rfl) (fun _ _ z => z.elim) h13 (fun x17 M15 h16 => ?_)
    obtain ⟨s18, h19⟩ := h16
    obtain ⟨h20, h21⟩ := h19
    refine ev_if_ne 153 dX12_reasonForRound_148 (by decide) s18 (fun c22 => ?_) (fun c22 => ?_)
    · have h23 := h20 c22
      exact ev_sub [0, 1, 3, 4] rfl h23
    · have h24 := h21 c22
      refine ev_iconst dX12_reasonForRound_151 ?_
      exact ev_iret dX12_reasonForRound_152 (by decide) rfl h24
set_option maxRecDepth 20000 in
set_option maxHeartbeats 4000000 in
theorem bX12_reasonForRound_153 {G : GT} {K : List Value → Mem → Prop} {X : String → Mem → Prop} {M : Mem} {v1 v3 v4 : Int} (h : I32 v4 ∧ ((¬ v4 = 0 → eX12_reasonForRound G K X 176 [] [] M) ∧ (v4 = 0 → Call G 0 0 zX12_first [rr G 8 0 0, iv v1] M (kI (fun x10 M8 => Call G 0 0 zX12_homeStop [rr G 8 0 0, iv v3] M8 (kI (fun x13 M11 => I32 x10 ∧ I32 x13 ∧ ((x10 = x13 → eX12_reasonForRound G K X 176 [] [] M11) ∧ (¬ x10 = x13 → eX12_reasonForRound G K X 177 [] [iv 6] M11)))) noX)) noX))) : eX12_reasonForRound G K X 153 [(0, rr G 8 0 0), (1, iv v1), (3, iv v3), (4, iv v4)] [] M := by
  show Ex G zX12_reasonForRound 3 0 K X 0 153 [(0, rr G 8 0 0), (1, iv v1), (3, iv v3), (4, iv v4)] [] M
  refine ev_iload (j := 3) dX12_reasonForRound_153 rfl ?_
  obtain ⟨s1, h2⟩ := h
  obtain ⟨h3, h4⟩ := h2
  refine ev_if_ne 176 dX12_reasonForRound_155 (by decide) s1 (fun c5 => ?_) (fun c5 => ?_)
  · have h6 := h3 c5
    exact ev_sub [] rfl h6
  · have h7 := h4 c5
    refine ev_aload_n (j := 0) dX12_reasonForRound_158 rfl rfl ?_
    refine ev_iload_n (j := 1) dX12_reasonForRound_159 rfl rfl ?_
    refine ev_callVI (As := [iv v1]) (st := []) mfX12_first mlX12_113 dX12_reasonForRound_160 rfl dm8_0 en8_0 rfl rfl rfl (by decide) (by decide) (by decide) (Nat.le_of_ble_eq_true rfl) (fun _ _ z => z.elim) h7 (fun x10 M8 h9 => ?_)
    refine ev_aload_n (j := 0) dX12_reasonForRound_163 rfl rfl ?_
    refine ev_iload_n (j := 2) dX12_reasonForRound_164 rfl rfl ?_
    refine ev_callVI (As := [iv v3]) (st := [iv x10]) mfX12_homeStop mlX12_129 dX12_reasonForRound_165 rfl dm8_0 en8_0 rfl rfl rfl (by decide) (by decide) (by decide) (Nat.le_of_ble_eq_true rfl) (fun _ _ z => z.elim) h9 (fun x13 M11 h12 => ?_)
    obtain ⟨s14, s15, h16⟩ := h12
    obtain ⟨h17, h18⟩ := h16
    refine ev_icmp_eq 176 dX12_reasonForRound_168 (by decide) s14 s15 (fun c19 => ?_) (fun c19 => ?_)
    · have h20 := h17 c19
      exact ev_sub [] rfl h20
    · have h21 := h18 c19
      refine ev_bipush dX12_reasonForRound_171 (by decide) ?_
      refine ev_goto 177 dX12_reasonForRound_173 (by decide) ?_
      exact ev_sub [] rfl h21
set_option maxRecDepth 20000 in
set_option maxHeartbeats 4000000 in
theorem bX12_reasonForRound_176 {G : GT} {K : List Value → Mem → Prop} {X : String → Mem → Prop} {M : Mem} (h : eX12_reasonForRound G K X 177 [] [iv 0] M) : eX12_reasonForRound G K X 176 [] [] M := by
  show Ex G zX12_reasonForRound 3 0 K X 0 176 [] [] M
  refine ev_iconst dX12_reasonForRound_176 ?_
  exact ev_sub [] rfl h
set_option maxRecDepth 20000 in
set_option maxHeartbeats 4000000 in
theorem bX12_reasonForRound_177 {G : GT} {K : List Value → Mem → Prop} {X : String → Mem → Prop} {M : Mem} {w0 : Int} (h : K [iv w0] M) : eX12_reasonForRound G K X 177 [] [iv w0] M := by
  show Ex G zX12_reasonForRound 3 0 K X 0 177 [] [iv w0] M
  exact ev_iret dX12_reasonForRound_177 (by decide) rfl h
def eX12_refusal (G : GT) (K : List Value → Mem → Prop) (X : String → Mem → Prop) (pc : Nat) (lv : List (Nat × Value)) (st : List Value) (M : Mem) : Prop := Ex G zX12_refusal 0 0 K X 0 pc lv st M
set_option maxRecDepth 20000 in
set_option maxHeartbeats 4000000 in
theorem bX12_refusal {G : GT} {K : List Value → Mem → Prop} {X : String → Mem → Prop} {M : Mem} (h : I32 (M 8 0 0 6) ∧ ((¬ (M 8 0 0 6) = 0 → K [iv (M 8 0 0 6)] (wr M 8 0 0 7 0)) ∧ ((M 8 0 0 6) = 0 → K [iv (M 8 0 0 6)] (wr M 8 0 0 7 1)))) : Call G 0 0 zX12_refusal [rr G 8 0 0] M K X := by
  refine call_intro (lv := [(0, rr G 8 0 0)]) (by decide) rfl (Nat.le_of_ble_eq_true rfl) rfl ?_
  refine ev_aload_n (j := 0) dX12_refusal_0 rfl rfl ?_
  refine ev_aload_n (j := 0) dX12_refusal_1 rfl rfl ?_
  refine ev_get frX12_226 dX12_refusal_2 dm8_0 en8_0 rfl ?_
  obtain ⟨s1, h2⟩ := h
  obtain ⟨h3, h4⟩ := h2
  refine ev_if_ne 12 dX12_refusal_5 (by decide) s1 (fun c5 => ?_) (fun c5 => ?_)
  · have h6 := h3 c5
    refine ev_iconst dX12_refusal_12 ?_
    refine ev_put fwX12_84 dX12_refusal_13 dm8_0 en8_0 rfl rfl rfl (Nat.le_of_ble_eq_true rfl) ?_
    refine ev_aload_n (j := 0) dX12_refusal_16 rfl rfl ?_
    refine ev_get frX12_226 dX12_refusal_17 dm8_0 en8_0 rfl ?_
    refine ev_topI (b := M 8 0 0 6) rfl ?_
    exact ev_iret dX12_refusal_20 (by decide) rfl h6
  · have h7 := h4 c5
    refine ev_iconst dX12_refusal_8 ?_
    refine ev_goto 13 dX12_refusal_9 (by decide) ?_
    refine ev_put fwX12_84 dX12_refusal_13 dm8_0 en8_0 rfl rfl rfl (Nat.le_of_ble_eq_true rfl) ?_
    refine ev_aload_n (j := 0) dX12_refusal_16 rfl rfl ?_
    refine ev_get frX12_226 dX12_refusal_17 dm8_0 en8_0 rfl ?_
    refine ev_topI (b := M 8 0 0 6) rfl ?_
    exact ev_iret dX12_refusal_20 (by decide) rfl h7
def eX12_relink (G : GT) (K : List Value → Mem → Prop) (X : String → Mem → Prop) (pc : Nat) (lv : List (Nat × Value)) (st : List Value) (M : Mem) : Prop := Ex G zX12_relink 5 0 K X 0 pc lv st M
set_option maxRecDepth 20000 in
set_option maxHeartbeats 4000000 in
theorem bX12_relink {G : GT} {K : List Value → Mem → Prop} {X : String → Mem → Prop} {M : Mem} (h : Call G 1 0 zX12_begins [rr G 8 0 0] (wr M 8 0 0 7 0) (kV (fun M1 => eX12_relink G K X 11 [(0, rr G 8 0 0), (1, iv 0)] [] M1)) noX) : Call G 5 0 zX12_relink [rr G 8 0 0] M K X := by
  refine call_intro (lv := [(0, rr G 8 0 0)]) (by decide) rfl (Nat.le_of_ble_eq_true rfl) rfl ?_
  refine ev_aload_n (j := 0) dX12_relink_0 rfl rfl ?_
  refine ev_iconst dX12_relink_1 ?_
  refine ev_put fwX12_84 dX12_relink_2 dm8_0 en8_0 rfl rfl rfl (Nat.le_of_ble_eq_true rfl) ?_
  refine ev_aload_n (j := 0) dX12_relink_5 rfl rfl ?_
  refine ev_callVV (As := []) (st := []) mfX12_begins mlX12_139 dX12_relink_6 rfl dm8_0 en8_0 rfl rfl rfl (by decide) (by decide) (by decide) (Nat.le_of_ble_eq_true rfl) (fun _ _ z => z.elim) h (fun M1 h2 => ?_)
  refine ev_iconst dX12_relink_9 ?_
  refine ev_istore_n dX12_relink_10 rfl (by decide) rfl ?_
  exact ev_sub [1, 0] rfl h2
set_option maxRecDepth 20000 in
set_option maxHeartbeats 4000000 in
theorem bX12_relink_11 {G : GT} {K : List Value → Mem → Prop} {X : String → Mem → Prop} {M : Mem} {v1 : Int} (h : I32 v1 ∧ I32 (M 8 0 1 160) ∧ ((¬ v1 < (M 8 0 1 160) → Call G 1 0 zX12_orders [rr G 8 0 0] M (kV (fun M8 => eX12_relink G K X 48 [(0, rr G 8 0 0), (1, iv 0), (2, iv 0)] [] M8)) noX) ∧ (v1 < (M 8 0 1 160) → 0 ≤ 171 + v1 ∧ 171 + v1 < 500 ∧ eX12_relink G K X 11 [(0, rr G 8 0 0), (1, iv (v1 + 1))] [] (wr M 8 0 1 (171 + v1) 0)))) : eX12_relink G K X 11 [(0, rr G 8 0 0), (1, iv v1)] [] M := by
  show Ex G zX12_relink 5 0 K X 0 11 [(0, rr G 8 0 0), (1, iv v1)] [] M
  refine ev_iload_n (j := 1) dX12_relink_11 rfl rfl ?_
  refine ev_aload_n (j := 0) dX12_relink_12 rfl rfl ?_
  refine ev_get frX12_7 dX12_relink_13 dm8_0 en8_0 rfl ?_
  refine ev_sipush dX12_relink_16 (by decide) ?_
  refine ev_iald dX12_relink_19 dm8_1 ar8_1 (by decide) (by decide) (by decide) ?_
  obtain ⟨s1, s2, h3⟩ := h
  obtain ⟨h4, h5⟩ := h3
  refine ev_icmp_ge 40 dX12_relink_20 (by decide) s1 s2 (fun c6 => ?_) (fun c6 => ?_)
  · have h7 := h4 c6
    refine ev_aload_n (j := 0) dX12_relink_40 rfl rfl ?_
    refine ev_callVV (As := []) (st := []) mfX12_orders mlX12_304 dX12_relink_41 rfl dm8_0 en8_0 rfl rfl rfl (by decide) (by decide) (by decide) (Nat.le_of_ble_eq_true rfl) (fun _ _ z => z.elim) h7 (fun M8 h9 => ?_)
    refine ev_iconst dX12_relink_44 ?_
    refine ev_istore_n dX12_relink_45 rfl (by decide) rfl ?_
    refine ev_iconst dX12_relink_46 ?_
    refine ev_istore_n dX12_relink_47 rfl (by decide) rfl ?_
    exact ev_sub [2, 1, 0] rfl h9
  · have h11 := h5 c6
    refine ev_aload_n (j := 0) dX12_relink_23 rfl rfl ?_
    refine ev_get frX12_7 dX12_relink_24 dm8_0 en8_0 rfl ?_
    refine ev_sipush dX12_relink_27 (by decide) ?_
    refine ev_iload_n (j := 1) dX12_relink_30 rfl rfl ?_
    refine ev_iadd dX12_relink_31 ?_
    refine ev_iconst dX12_relink_32 ?_
    obtain ⟨s12, s13, h14⟩ := h11
    refine ev_iast dX12_relink_33 dm8_1 ar8_1 (by decide) s12 s13 ?_
    refine ev_iinc (j := 1) dX12_relink_34 rfl (by decide) rfl ?_
    refine ev_goto 11 dX12_relink_37 (by decide) ?_
    exact ev_sub [1, 0] rfl h14
set_option maxRecDepth 20000 in
set_option maxHeartbeats 4000000 in
theorem bX12_relink_48 {G : GT} {K : List Value → Mem → Prop} {X : String → Mem → Prop} {M : Mem} {v1 v2 : Int} (h : I32 v2 ∧ I32 (M 8 0 0 10) ∧ ((¬ v2 < (M 8 0 0 10) → Call G 0 0 zX12_remembers [rr G 8 0 0] M (kV (fun M8 => K [iv v1] M8)) noX) ∧ (v2 < (M 8 0 0 10) → 0 ≤ v2 ∧ v2 < 30 ∧ Call G 4 0 zX12_vehicleFor [rr G 8 0 0, iv (M 8 0 6 v2)] M (kI (fun x17 M15 => I32 x17 ∧ ((¬ x17 < 0 → Call G 2 0 zX12_gives [rr G 8 0 0, iv (M15 8 0 6 v2), iv x17] M15 (kI (fun x26 M24 => eX12_relink G K X 48 [(0, rr G 8 0 0), (1, iv v1), (2, iv (v2 + 1))] [] M24)) noX) ∧ (x17 < 0 → eX12_relink G K X 48 [(0, rr G 8 0 0), (1, iv (v1 + 1)), (2, iv (v2 + 1))] [] M15)))) noX))) : eX12_relink G K X 48 [(0, rr G 8 0 0), (1, iv v1), (2, iv v2)] [] M := by
  show Ex G zX12_relink 5 0 K X 0 48 [(0, rr G 8 0 0), (1, iv v1), (2, iv v2)] [] M
  refine ev_iload_n (j := 2) dX12_relink_48 rfl rfl ?_
  refine ev_aload_n (j := 0) dX12_relink_49 rfl rfl ?_
  refine ev_get frX12_201 dX12_relink_50 dm8_0 en8_0 rfl ?_
  obtain ⟨s1, s2, h3⟩ := h
  obtain ⟨h4, h5⟩ := h3
  refine ev_icmp_ge 95 dX12_relink_53 (by decide) s1 s2 (fun c6 => ?_) (fun c6 => ?_)
  · have h7 := h4 c6
    refine ev_aload_n (j := 0) dX12_relink_95 rfl rfl ?_
    refine ev_callVV (As := []) (st := []) mfX12_remembers mlX12_102 dX12_relink_96 rfl dm8_0 en8_0 rfl rfl rfl (by decide) (by decide) (by decide) (Nat.le_of_ble_eq_true rfl) (fun _ _ z => z.elim) h7 (fun M8 h9 => ?_)
    refine ev_iload_n (j := 1) dX12_relink_99 rfl rfl ?_
    exact ev_iret dX12_relink_100 (by decide) rfl h9
  · have h11 := h5 c6
    refine ev_aload_n (j := 0) dX12_relink_56 rfl rfl ?_
    refine ev_aload_n (j := 0) dX12_relink_57 rfl rfl ?_
    refine ev_get frX12_25 dX12_relink_58 dm8_0 en8_0 rfl ?_
    refine ev_iload_n (j := 2) dX12_relink_61 rfl rfl ?_
    obtain ⟨s12, s13, h14⟩ := h11
    refine ev_iald dX12_relink_62 dm8_6 ar8_6 (by decide) s12 s13 ?_
    refine ev_callVI (As := [iv (M 8 0 6 v2)]) (st := []) mfX12_vehicleFor mlX12_326 dX12_relink_63 rfl dm8_0 en8_0 rfl rfl rfl (by decide) (by decide) (by decide) (Nat.le_of_ble_eq_true rfl) (fun _ _ z => z.elim) h14 (fun x17 M15 h16 => ?_)
    refine ev_istore_n dX12_relink_66 rfl (by decide) rfl ?_
    refine ev_iload_n (j := 0) dX12_relink_67 rfl rfl ?_
    obtain ⟨s18, h19⟩ := h16
    obtain ⟨h20, h21⟩ := h19
    refine ev_if_ge 77 dX12_relink_68 (by decide) s18 (fun c22 => ?_) (fun c22 => ?_)
    · have h23 := h20 c22
      refine ev_aload_n (j := 1) dX12_relink_77 rfl rfl ?_
      refine ev_aload_n (j := 1) dX12_relink_78 rfl rfl ?_
      refine ev_get frX12_25 dX12_relink_79 dm8_0 en8_0 rfl ?_
      refine ev_iload_n (j := 3) dX12_relink_82 rfl rfl ?_
      refine ev_iald dX12_relink_83 dm8_6 ar8_6 (by decide) s12 s13 ?_
      refine ev_iload_n (j := 0) dX12_relink_84 rfl rfl ?_
      refine ev_callVI (As := [iv (M15 8 0 6 v2), iv x17]) (st := []) mfX12_gives mlX12_229 dX12_relink_85 rfl dm8_0 en8_0 rfl rfl rfl (by decide) (by decide) (by decide) (Nat.le_of_ble_eq_true rfl) (fun _ _ z => z.elim) h23 (fun x26 M24 h25 => ?_)
      refine ev_pop dX12_relink_88 rfl ?_
      refine ev_iinc (j := 3) dX12_relink_89 rfl (by decide) rfl ?_
      refine ev_goto 48 dX12_relink_92 (by decide) ?_
      exact ev_sub [2, 3, 0] rfl h25
    · have h27 := h21 c22
      refine ev_iinc (j := 2) dX12_relink_71 rfl (by decide) rfl ?_
      refine ev_goto 89 dX12_relink_74 (by decide) ?_
      refine ev_iinc (j := 3) dX12_relink_89 rfl (by decide) rfl ?_
      refine ev_goto 48 dX12_relink_92 (by decide) ?_
      exact ev_sub [3, 1, 0] rfl h27
def eX12_remembers (G : GT) (K : List Value → Mem → Prop) (X : String → Mem → Prop) (pc : Nat) (lv : List (Nat × Value)) (st : List Value) (M : Mem) : Prop := Ex G zX12_remembers 0 0 K X 0 pc lv st M
set_option maxRecDepth 20000 in
set_option maxHeartbeats 4000000 in
theorem bX12_remembers {G : GT} {K : List Value → Mem → Prop} {X : String → Mem → Prop} {M : Mem} (h : I32 (M 8 0 0 5) ∧ ((¬ (M 8 0 0 5) = 8 → eX12_remembers G K X 52 [(0, rr G 8 0 0), (1, iv 0)] [] M) ∧ ((M 8 0 0 5) = 8 → eX12_remembers G K X 11 [(0, rr G 8 0 0), (1, iv 0)] [] M))) : Call G 0 0 zX12_remembers [rr G 8 0 0] M K X := by
  refine call_intro (lv := [(0, rr G 8 0 0)]) (by decide) rfl (Nat.le_of_ble_eq_true rfl) rfl ?_
  refine ev_aload_n (j := 0) dX12_remembers_0 rfl rfl ?_
  refine ev_get frX12_91 dX12_remembers_1 dm8_0 en8_0 rfl ?_
  refine ev_bipush dX12_remembers_4 (by decide) ?_
  obtain ⟨s1, h2⟩ := h
  obtain ⟨h3, h4⟩ := h2
  refine ev_icmp_ne 50 dX12_remembers_6 (by decide) s1 ⟨by decide, by decide⟩ (fun c5 => ?_) (fun c5 => ?_)
  · have h6 := h3 c5
    refine ev_iconst dX12_remembers_50 ?_
    refine ev_istore_n dX12_remembers_51 rfl (by decide) rfl ?_
    exact ev_sub [1, 0] rfl h6
  · have h7 := h4 c5
    refine ev_iconst dX12_remembers_9 ?_
    refine ev_istore_n dX12_remembers_10 rfl (by decide) rfl ?_
    exact ev_sub [1, 0] rfl h7
set_option maxRecDepth 20000 in
set_option maxHeartbeats 4000000 in
theorem bX12_remembers_52 {G : GT} {K : List Value → Mem → Prop} {X : String → Mem → Prop} {M : Mem} {v1 : Int} (h : I32 v1 ∧ ((¬ v1 < 500 → K [] (wr M 8 0 0 5 ((M 8 0 0 5) + 1))) ∧ (v1 < 500 → 0 ≤ v1 ∧ 0 ≤ (500 * (M 8 0 0 5)) + v1 ∧ (500 * (M 8 0 0 5)) + v1 < 4000 ∧ eX12_remembers G K X 52 [(0, rr G 8 0 0), (1, iv (v1 + 1))] [] (wr M 8 0 4 ((500 * (M 8 0 0 5)) + v1) (M 8 0 3 v1))))) : eX12_remembers G K X 52 [(0, rr G 8 0 0), (1, iv v1)] [] M := by
  show Ex G zX12_remembers 0 0 K X 0 52 [(0, rr G 8 0 0), (1, iv v1)] [] M
  refine ev_iload_n (j := 1) dX12_remembers_52 rfl rfl ?_
  refine ev_sipush dX12_remembers_53 (by decide) ?_
  obtain ⟨s1, h2⟩ := h
  obtain ⟨h3, h4⟩ := h2
  refine ev_icmp_ge 86 dX12_remembers_56 (by decide) s1 ⟨by decide, by decide⟩ (fun c5 => ?_) (fun c5 => ?_)
  · have h6 := h3 c5
    refine ev_aload_n (j := 0) dX12_remembers_86 rfl rfl ?_
    refine ev_dup dX12_remembers_87 rfl ?_
    refine ev_get frX12_91 dX12_remembers_88 dm8_0 en8_0 rfl ?_
    refine ev_iconst dX12_remembers_91 ?_
    refine ev_iadd dX12_remembers_92 ?_
    refine ev_put fwX12_91 dX12_remembers_93 dm8_0 en8_0 rfl rfl rfl (Nat.le_of_ble_eq_true rfl) ?_
    exact ev_vret dX12_remembers_96 (by decide) rfl h6
  · have h7 := h4 c5
    refine ev_aload_n (j := 0) dX12_remembers_59 rfl rfl ?_
    refine ev_get frX12_19 dX12_remembers_60 dm8_0 en8_0 rfl ?_
    refine ev_sipush dX12_remembers_63 (by decide) ?_
    refine ev_aload_n (j := 0) dX12_remembers_66 rfl rfl ?_
    refine ev_get frX12_91 dX12_remembers_67 dm8_0 en8_0 rfl ?_
    refine ev_imul dX12_remembers_70 ?_
    refine ev_iload_n (j := 1) dX12_remembers_71 rfl rfl ?_
    refine ev_iadd dX12_remembers_72 ?_
    refine ev_aload_n (j := 0) dX12_remembers_73 rfl rfl ?_
    refine ev_get frX12_16 dX12_remembers_74 dm8_0 en8_0 rfl ?_
    refine ev_iload_n (j := 1) dX12_remembers_77 rfl rfl ?_
    obtain ⟨s8, h9⟩ := h7
    refine ev_iald dX12_remembers_78 dm8_3 ar8_3 (by decide) s8 c5 ?_
    obtain ⟨s10, s11, h12⟩ := h9
    refine ev_iast dX12_remembers_79 dm8_4 ar8_4 (by decide) s10 s11 ?_
    refine ev_iinc (j := 1) dX12_remembers_80 rfl (by decide) rfl ?_
    refine ev_goto 52 dX12_remembers_83 (by decide) ?_
    exact ev_sub [1, 0] rfl h12
set_option maxRecDepth 20000 in
set_option maxHeartbeats 4000000 in
theorem bX12_remembers_11 {G : GT} {K : List Value → Mem → Prop} {X : String → Mem → Prop} {M : Mem} {v1 : Int} (h : I32 v1 ∧ ((¬ v1 < 3500 → eX12_remembers G K X 52 [(0, rr G 8 0 0), (1, iv 0)] [] (wr M 8 0 0 5 ((M 8 0 0 5) - 1))) ∧ (v1 < 3500 → 0 ≤ v1 + 500 ∧ v1 + 500 < 4000 ∧ 0 ≤ v1 ∧ v1 < 4000 ∧ eX12_remembers G K X 11 [(0, rr G 8 0 0), (1, iv (v1 + 1))] [] (wr M 8 0 4 v1 (M 8 0 4 (v1 + 500)))))) : eX12_remembers G K X 11 [(0, rr G 8 0 0), (1, iv v1)] [] M := by
  show Ex G zX12_remembers 0 0 K X 0 11 [(0, rr G 8 0 0), (1, iv v1)] [] M
  refine ev_iload_n (j := 1) dX12_remembers_11 rfl rfl ?_
  refine ev_sipush dX12_remembers_12 (by decide) ?_
  obtain ⟨s1, h2⟩ := h
  obtain ⟨h3, h4⟩ := h2
  refine ev_icmp_ge 40 dX12_remembers_15 (by decide) s1 ⟨by decide, by decide⟩ (fun c5 => ?_) (fun c5 => ?_)
  · have h6 := h3 c5
    refine ev_aload_n (j := 0) dX12_remembers_40 rfl rfl ?_
    refine ev_dup dX12_remembers_41 rfl ?_
    refine ev_get frX12_91 dX12_remembers_42 dm8_0 en8_0 rfl ?_
    refine ev_iconst dX12_remembers_45 ?_
    refine ev_isub dX12_remembers_46 ?_
    refine ev_put fwX12_91 dX12_remembers_47 dm8_0 en8_0 rfl rfl rfl (Nat.le_of_ble_eq_true rfl) ?_
    refine ev_iconst dX12_remembers_50 ?_
    refine ev_istore_n dX12_remembers_51 rfl (by decide) rfl ?_
    exact ev_sub [1, 0] rfl h6
  · have h7 := h4 c5
    refine ev_aload_n (j := 0) dX12_remembers_18 rfl rfl ?_
    refine ev_get frX12_19 dX12_remembers_19 dm8_0 en8_0 rfl ?_
    refine ev_iload_n (j := 1) dX12_remembers_22 rfl rfl ?_
    refine ev_aload_n (j := 0) dX12_remembers_23 rfl rfl ?_
    refine ev_get frX12_19 dX12_remembers_24 dm8_0 en8_0 rfl ?_
    refine ev_iload_n (j := 1) dX12_remembers_27 rfl rfl ?_
    refine ev_sipush dX12_remembers_28 (by decide) ?_
    refine ev_iadd dX12_remembers_31 ?_
    obtain ⟨s8, s9, h10⟩ := h7
    refine ev_iald dX12_remembers_32 dm8_4 ar8_4 (by decide) s8 s9 ?_
    obtain ⟨s11, s12, h13⟩ := h10
    refine ev_iast dX12_remembers_33 dm8_4 ar8_4 (by decide) s11 s12 ?_
    refine ev_iinc (j := 1) dX12_remembers_34 rfl (by decide) rfl ?_
    refine ev_goto 11 dX12_remembers_37 (by decide) ?_
    exact ev_sub [1, 0] rfl h13
def eX12_restore (G : GT) (K : List Value → Mem → Prop) (X : String → Mem → Prop) (pc : Nat) (lv : List (Nat × Value)) (st : List Value) (M : Mem) : Prop := Ex G zX12_restore 1 0 K X 0 pc lv st M
set_option maxRecDepth 20000 in
set_option maxHeartbeats 4000000 in
theorem bX12_restore {G : GT} {K : List Value → Mem → Prop} {X : String → Mem → Prop} {M : Mem} (h : I32 (M 8 0 0 3) ∧ (((M 8 0 0 3) = 0 → K [] (wr M 8 0 0 7 1)) ∧ (¬ (M 8 0 0 3) = 0 → Call G 0 0 zX12_copies [rr G 8 0 0, rr G 8 0 2, rr G 8 0 1] (wr M 8 0 0 7 0) (kV (fun M8 => K [] (wr M8 8 0 0 5 0))) noX))) : Call G 1 0 zX12_restore [rr G 8 0 0] M K X := by
  refine call_intro (lv := [(0, rr G 8 0 0)]) (by decide) rfl (Nat.le_of_ble_eq_true rfl) rfl ?_
  refine ev_aload_n (j := 0) dX12_restore_0 rfl rfl ?_
  refine ev_aload_n (j := 0) dX12_restore_1 rfl rfl ?_
  refine ev_get frX12_105 dX12_restore_2 dm8_0 en8_0 rfl ?_
  obtain ⟨s1, h2⟩ := h
  obtain ⟨h3, h4⟩ := h2
  refine ev_if_eq 12 dX12_restore_5 (by decide) s1 (fun c5 => ?_) (fun c5 => ?_)
  · have h6 := h3 c5
    refine ev_iconst dX12_restore_12 ?_
    refine ev_put fwX12_84 dX12_restore_13 dm8_0 en8_0 rfl rfl rfl (Nat.le_of_ble_eq_true rfl) ?_
    refine ev_aload_n (j := 0) dX12_restore_16 rfl rfl ?_
    refine ev_get frX12_84 dX12_restore_17 dm8_0 en8_0 rfl ?_
    refine ev_topI (b := 1) rfl ?_
    refine ev_if_ne 40 dX12_restore_20 (by decide) ⟨by decide, by decide⟩ (fun _ => ?_) (fun c9 => absurd c9 (by decide))
    exact ev_vret dX12_restore_40 (by decide) rfl h6
  · have h7 := h4 c5
    refine ev_iconst dX12_restore_8 ?_
    refine ev_goto 13 dX12_restore_9 (by decide) ?_
    refine ev_put fwX12_84 dX12_restore_13 dm8_0 en8_0 rfl rfl rfl (Nat.le_of_ble_eq_true rfl) ?_
    refine ev_aload_n (j := 0) dX12_restore_16 rfl rfl ?_
    refine ev_get frX12_84 dX12_restore_17 dm8_0 en8_0 rfl ?_
    refine ev_topI (b := 0) rfl ?_
    refine ev_if_ne 40 dX12_restore_20 (by decide) ⟨by decide, by decide⟩ (fun c9 => absurd c9 (by decide)) (fun _ => ?_)
    refine ev_aload_n (j := 0) dX12_restore_23 rfl rfl ?_
    refine ev_aload_n (j := 0) dX12_restore_24 rfl rfl ?_
    refine ev_get frX12_13 dX12_restore_25 dm8_0 en8_0 rfl ?_
    refine ev_aload_n (j := 0) dX12_restore_28 rfl rfl ?_
    refine ev_get frX12_7 dX12_restore_29 dm8_0 en8_0 rfl ?_
    refine ev_callVV (As := [rr G 8 0 2, rr G 8 0 1]) (st := []) mfX12_copies mlX12_94 dX12_restore_32 rfl dm8_0 en8_0 rfl rfl rfl (by decide) (by decide) (by decide) (Nat.le_of_ble_eq_true rfl) (fun _ _ z => z.elim) h7 (fun M8 h9 => ?_)
    refine ev_aload_n (j := 0) dX12_restore_35 rfl rfl ?_
    refine ev_iconst dX12_restore_36 ?_
    refine ev_put fwX12_91 dX12_restore_37 dm8_0 en8_0 rfl rfl rfl (Nat.le_of_ble_eq_true rfl) ?_
    exact ev_vret dX12_restore_40 (by decide) rfl h9
def eX12_rowPlace (G : GT) (K : List Value → Mem → Prop) (X : String → Mem → Prop) (pc : Nat) (lv : List (Nat × Value)) (st : List Value) (M : Mem) : Prop := Ex G zX12_rowPlace 0 0 K X 0 pc lv st M
set_option maxRecDepth 20000 in
set_option maxHeartbeats 4000000 in
theorem bX12_rowPlace {G : GT} {K : List Value → Mem → Prop} {X : String → Mem → Prop} {M : Mem} {v1 : Int} (h : eX12_rowPlace G K X 6 [(0, rr G 8 0 0), (1, iv v1), (2, iv 0), (3, iv (v1 + 1))] [] M) : Call G 0 0 zX12_rowPlace [rr G 8 0 0, iv v1] M K X := by
  refine call_intro (lv := [(0, rr G 8 0 0), (1, iv v1)]) (by decide) rfl (Nat.le_of_ble_eq_true rfl) rfl ?_
  refine ev_iconst dX12_rowPlace_0 ?_
  refine ev_istore_n dX12_rowPlace_1 rfl (by decide) rfl ?_
  refine ev_iload_n (j := 2) dX12_rowPlace_2 rfl rfl ?_
  refine ev_iconst dX12_rowPlace_3 ?_
  refine ev_iadd dX12_rowPlace_4 ?_
  refine ev_istore_n dX12_rowPlace_5 rfl (by decide) rfl ?_
  exact ev_sub [2, 3, 1, 0] rfl h
set_option maxRecDepth 20000 in
set_option maxHeartbeats 4000000 in
theorem bX12_rowPlace_6 {G : GT} {K : List Value → Mem → Prop} {X : String → Mem → Prop} {M : Mem} {v1 v2 v3 : Int} (h : I32 v3 ∧ I32 (M 8 0 1 160) ∧ ((¬ v3 < (M 8 0 1 160) → K [iv v2] M) ∧ (v3 < (M 8 0 1 160) → 0 ≤ 161 + v3 ∧ 161 + v3 < 500 ∧ 0 ≤ 161 + v1 ∧ 161 + v1 < 500 ∧ I32 (M 8 0 1 (161 + v3)) ∧ I32 (M 8 0 1 (161 + v1)) ∧ ((¬ (M 8 0 1 (161 + v3)) = (M 8 0 1 (161 + v1)) → eX12_rowPlace G K X 6 [(0, rr G 8 0 0), (1, iv v1), (2, iv (v2 + 0)), (3, iv (v3 + 1))] [] M) ∧ ((M 8 0 1 (161 + v3)) = (M 8 0 1 (161 + v1)) → eX12_rowPlace G K X 6 [(0, rr G 8 0 0), (1, iv v1), (2, iv (v2 + 1)), (3, iv (v3 + 1))] [] M))))) : eX12_rowPlace G K X 6 [(0, rr G 8 0 0), (1, iv v1), (2, iv v2), (3, iv v3)] [] M := by
  show Ex G zX12_rowPlace 0 0 K X 0 6 [(0, rr G 8 0 0), (1, iv v1), (2, iv v2), (3, iv v3)] [] M
  refine ev_iload_n (j := 3) dX12_rowPlace_6 rfl rfl ?_
  refine ev_aload_n (j := 0) dX12_rowPlace_7 rfl rfl ?_
  refine ev_get frX12_7 dX12_rowPlace_8 dm8_0 en8_0 rfl ?_
  refine ev_sipush dX12_rowPlace_11 (by decide) ?_
  refine ev_iald dX12_rowPlace_14 dm8_1 ar8_1 (by decide) (by decide) (by decide) ?_
  obtain ⟨s1, s2, h3⟩ := h
  obtain ⟨h4, h5⟩ := h3
  refine ev_icmp_ge 55 dX12_rowPlace_15 (by decide) s1 s2 (fun c6 => ?_) (fun c6 => ?_)
  · have h7 := h4 c6
    refine ev_iload_n (j := 2) dX12_rowPlace_55 rfl rfl ?_
    exact ev_iret dX12_rowPlace_56 (by decide) rfl h7
  · have h8 := h5 c6
    refine ev_iload_n (j := 2) dX12_rowPlace_18 rfl rfl ?_
    refine ev_aload_n (j := 0) dX12_rowPlace_19 rfl rfl ?_
    refine ev_get frX12_7 dX12_rowPlace_20 dm8_0 en8_0 rfl ?_
    refine ev_sipush dX12_rowPlace_23 (by decide) ?_
    refine ev_iload_n (j := 3) dX12_rowPlace_26 rfl rfl ?_
    refine ev_iadd dX12_rowPlace_27 ?_
    obtain ⟨s9, s10, h11⟩ := h8
    refine ev_iald dX12_rowPlace_28 dm8_1 ar8_1 (by decide) s9 s10 ?_
    refine ev_aload_n (j := 0) dX12_rowPlace_29 rfl rfl ?_
    refine ev_get frX12_7 dX12_rowPlace_30 dm8_0 en8_0 rfl ?_
    refine ev_sipush dX12_rowPlace_33 (by decide) ?_
    refine ev_iload_n (j := 1) dX12_rowPlace_36 rfl rfl ?_
    refine ev_iadd dX12_rowPlace_37 ?_
    obtain ⟨s12, s13, h14⟩ := h11
    refine ev_iald dX12_rowPlace_38 dm8_1 ar8_1 (by decide) s12 s13 ?_
    obtain ⟨s15, s16, h17⟩ := h14
    obtain ⟨h18, h19⟩ := h17
    refine ev_icmp_ne 46 dX12_rowPlace_39 (by decide) s15 s16 (fun c20 => ?_) (fun c20 => ?_)
    · have h21 := h18 c20
      refine ev_iconst dX12_rowPlace_46 ?_
      refine ev_iadd dX12_rowPlace_47 ?_
      refine ev_istore_n dX12_rowPlace_48 rfl (by decide) rfl ?_
      refine ev_iinc (j := 3) dX12_rowPlace_49 rfl (by decide) rfl ?_
      refine ev_goto 6 dX12_rowPlace_52 (by decide) ?_
      exact ev_sub [2, 3, 1, 0] rfl h21
    · have h22 := h19 c20
      refine ev_iconst dX12_rowPlace_42 ?_
      refine ev_goto 47 dX12_rowPlace_43 (by decide) ?_
      refine ev_iadd dX12_rowPlace_47 ?_
      refine ev_istore_n dX12_rowPlace_48 rfl (by decide) rfl ?_
      refine ev_iinc (j := 3) dX12_rowPlace_49 rfl (by decide) rfl ?_
      refine ev_goto 6 dX12_rowPlace_52 (by decide) ?_
      exact ev_sub [2, 3, 1, 0] rfl h22
def eX12_run (G : GT) (K : List Value → Mem → Prop) (X : String → Mem → Prop) (pc : Nat) (lv : List (Nat × Value)) (st : List Value) (M : Mem) : Prop := Ex G zX12_run 6 0 K X 0 pc lv st M
set_option maxRecDepth 20000 in
set_option maxHeartbeats 4000000 in
theorem bX12_run {G : GT} {K : List Value → Mem → Prop} {X : String → Mem → Prop} {M : Mem} {v1 : Int} (h : Call G 5 0 zX12_sums [rr G 8 0 0] (wr M 8 0 0 7 0) (kV (fun M1 => I32 v1 ∧ ((v1 = 0 → K [iv (M1 8 0 0 21)] M1) ∧ (v1 = 1 → Call G 0 0 zX12_inDuties [rr G 8 0 0] M1 (kI (fun x18 M16 => K [iv (x18 - (M16 8 0 0 21))] M16)) noX) ∧ (v1 = 2 → K [iv (M1 8 0 0 22)] M1) ∧ (v1 = 3 → K [iv (M1 8 0 0 23)] M1) ∧ (v1 = 4 → K [iv (M1 8 0 0 18)] M1) ∧ (v1 = 5 → K [iv (M1 8 0 0 19)] M1) ∧ (v1 = 6 → K [iv (M1 8 0 0 20)] M1) ∧ ((v1 < 0 ∨ 6 < v1) → Call G 0 0 zX12_fails [rr G 8 0 0, iv 1] M1 (kI (fun x27 M25 => K [iv x27] M25)) noX)))) noX) : Call G 6 0 zX12_run [rr G 8 0 0, iv v1] M K X := by
  refine call_intro (lv := [(0, rr G 8 0 0), (1, iv v1)]) (by decide) rfl (Nat.le_of_ble_eq_true rfl) rfl ?_
  refine ev_aload_n (j := 0) dX12_run_0 rfl rfl ?_
  refine ev_iconst dX12_run_1 ?_
  refine ev_put fwX12_84 dX12_run_2 dm8_0 en8_0 rfl rfl rfl (Nat.le_of_ble_eq_true rfl) ?_
  refine ev_aload_n (j := 0) dX12_run_5 rfl rfl ?_
  refine ev_callVV (As := []) (st := []) mfX12_sums mlX12_292 dX12_run_6 rfl dm8_0 en8_0 rfl rfl rfl (by decide) (by decide) (by decide) (Nat.le_of_ble_eq_true rfl) (fun _ _ z => z.elim) h (fun M1 h2 => ?_)
  refine ev_iload_n (j := 1) dX12_run_9 rfl rfl ?_
  obtain ⟨s4, h5⟩ := h2
  obtain ⟨h6, h7, h8, h9, h10, h11, h12, h13⟩ := h5
  refine ev_tsw dX12_run_10 s4 (by decide) (fun j9 o9 hj9 ha9 t9 ht9 _ => ?_) (fun j9 o9 hj9 => ?_) (fun c9 t9 ht9 => ?_) (by decide)
  · have hb9 : j9 < 7 := (Array.getElem?_eq_some_iff.mp hj9).1
    rcases (show j9 = 0 ∨ j9 = 1 ∨ j9 = 2 ∨ j9 = 3 ∨ j9 = 4 ∨ j9 = 5 ∨ j9 = 6 by omega) with rfl | rfl | rfl | rfl | rfl | rfl | rfl
    · obtain rfl : o9 = (42 : Int) := (Option.some.inj (show some (42 : Int) = some o9 from hj9)).symm
      obtain rfl : t9 = 52 := by omega
      have h14 := h6 (by omega)
      refine ev_aload_n (j := 0) dX12_run_52 rfl rfl ?_
      refine ev_get frX12_283 dX12_run_53 dm8_0 en8_0 rfl ?_
      exact ev_iret dX12_run_56 (by decide) rfl h14
    · obtain rfl : o9 = (47 : Int) := (Option.some.inj (show some (47 : Int) = some o9 from hj9)).symm
      obtain rfl : t9 = 57 := by omega
      have h15 := h7 (by omega)
      refine ev_aload_n (j := 0) dX12_run_57 rfl rfl ?_
      refine ev_callVI (As := []) (st := []) mfX12_inDuties mlX12_192 dX12_run_58 rfl dm8_0 en8_0 rfl rfl rfl (by decide) (by decide) (by decide) (Nat.le_of_ble_eq_true rfl) (fun _ _ z => z.elim) h15 (fun x18 M16 h17 => ?_)
      refine ev_aload_n (j := 0) dX12_run_61 rfl rfl ?_
      refine ev_get frX12_283 dX12_run_62 dm8_0 en8_0 rfl ?_
      refine ev_isub dX12_run_65 ?_
      exact ev_iret dX12_run_66 (by decide) rfl h17
    · obtain rfl : o9 = (57 : Int) := (Option.some.inj (show some (57 : Int) = some o9 from hj9)).symm
      obtain rfl : t9 = 67 := by omega
      have h19 := h8 (by omega)
      refine ev_aload_n (j := 0) dX12_run_67 rfl rfl ?_
      refine ev_get frX12_286 dX12_run_68 dm8_0 en8_0 rfl ?_
      exact ev_iret dX12_run_71 (by decide) rfl h19
    · obtain rfl : o9 = (62 : Int) := (Option.some.inj (show some (62 : Int) = some o9 from hj9)).symm
      obtain rfl : t9 = 72 := by omega
      have h20 := h9 (by omega)
      refine ev_aload_n (j := 0) dX12_run_72 rfl rfl ?_
      refine ev_get frX12_289 dX12_run_73 dm8_0 en8_0 rfl ?_
      exact ev_iret dX12_run_76 (by decide) rfl h20
    · obtain rfl : o9 = (67 : Int) := (Option.some.inj (show some (67 : Int) = some o9 from hj9)).symm
      obtain rfl : t9 = 77 := by omega
      have h21 := h10 (by omega)
      refine ev_aload_n (j := 0) dX12_run_77 rfl rfl ?_
      refine ev_get frX12_248 dX12_run_78 dm8_0 en8_0 rfl ?_
      exact ev_iret dX12_run_81 (by decide) rfl h21
    · obtain rfl : o9 = (72 : Int) := (Option.some.inj (show some (72 : Int) = some o9 from hj9)).symm
      obtain rfl : t9 = 82 := by omega
      have h22 := h11 (by omega)
      refine ev_aload_n (j := 0) dX12_run_82 rfl rfl ?_
      refine ev_get frX12_251 dX12_run_83 dm8_0 en8_0 rfl ?_
      exact ev_iret dX12_run_86 (by decide) rfl h22
    · obtain rfl : o9 = (77 : Int) := (Option.some.inj (show some (77 : Int) = some o9 from hj9)).symm
      obtain rfl : t9 = 87 := by omega
      have h23 := h12 (by omega)
      refine ev_aload_n (j := 0) dX12_run_87 rfl rfl ?_
      refine ev_get frX12_254 dX12_run_88 dm8_0 en8_0 rfl ?_
      exact ev_iret dX12_run_91 (by decide) rfl h23
  · have hb9 : j9 < 7 := (Array.getElem?_eq_some_iff.mp hj9).1
    rcases (show j9 = 0 ∨ j9 = 1 ∨ j9 = 2 ∨ j9 = 3 ∨ j9 = 4 ∨ j9 = 5 ∨ j9 = 6 by omega) with rfl | rfl | rfl | rfl | rfl | rfl | rfl <;> (have hj8 := Option.some.inj hj9; revert hj8; intro hj8; subst hj8; decide)
  · obtain rfl : t9 = 92 := by omega
    have h24 := h13 c9
    refine ev_aload_n (j := 0) dX12_run_92 rfl rfl ?_
    refine ev_iconst dX12_run_93 ?_
    refine ev_callVI (As := [iv 1]) (st := []) mfX12_fails mlX12_146 dX12_run_94 rfl dm8_0 en8_0 rfl rfl rfl (by decide) (by decide) (by decide) (Nat.le_of_ble_eq_true rfl) (fun _ _ z => z.elim) h24 (fun x27 M25 h26 => ?_)
    exact ev_iret dX12_run_97 (by decide) rfl h26
def eX12_runs (G : GT) (K : List Value → Mem → Prop) (X : String → Mem → Prop) (pc : Nat) (lv : List (Nat × Value)) (st : List Value) (M : Mem) : Prop := Ex G zX12_runs 4 0 K X 0 pc lv st M
set_option maxRecDepth 20000 in
set_option maxHeartbeats 4000000 in
theorem bX12_runs {G : GT} {K : List Value → Mem → Prop} {X : String → Mem → Prop} {M : Mem} (h : eX12_runs G K X 2 [(0, rr G 8 0 0), (1, iv 0)] [] M) : Call G 4 0 zX12_runs [rr G 8 0 0] M K X := by
  refine call_intro (lv := [(0, rr G 8 0 0)]) (by decide) rfl (Nat.le_of_ble_eq_true rfl) rfl ?_
  refine ev_iconst dX12_runs_0 ?_
  refine ev_istore_n dX12_runs_1 rfl (by decide) rfl ?_
  exact ev_sub [1, 0] rfl h
set_option maxRecDepth 20000 in
set_option maxHeartbeats 4000000 in
theorem bX12_runs_2 {G : GT} {K : List Value → Mem → Prop} {X : String → Mem → Prop} {M : Mem} {v1 : Int} (h : I32 v1 ∧ ((¬ v1 < 24 → eX12_runs G K X 23 [(0, rr G 8 0 0), (1, iv 0)] [] M) ∧ (v1 < 24 → 0 ≤ v1 ∧ eX12_runs G K X 2 [(0, rr G 8 0 0), (1, iv (v1 + 1))] [] (wr M 8 0 11 v1 (-1))))) : eX12_runs G K X 2 [(0, rr G 8 0 0), (1, iv v1)] [] M := by
  show Ex G zX12_runs 4 0 K X 0 2 [(0, rr G 8 0 0), (1, iv v1)] [] M
  refine ev_iload_n (j := 1) dX12_runs_2 rfl rfl ?_
  refine ev_bipush dX12_runs_3 (by decide) ?_
  obtain ⟨s1, h2⟩ := h
  obtain ⟨h3, h4⟩ := h2
  refine ev_icmp_ge 21 dX12_runs_5 (by decide) s1 ⟨by decide, by decide⟩ (fun c5 => ?_) (fun c5 => ?_)
  · have h6 := h3 c5
    refine ev_iconst dX12_runs_21 ?_
    refine ev_istore_n dX12_runs_22 rfl (by decide) rfl ?_
    exact ev_sub [1, 0] rfl h6
  · have h7 := h4 c5
    refine ev_aload_n (j := 0) dX12_runs_8 rfl rfl ?_
    refine ev_get frX12_40 dX12_runs_9 dm8_0 en8_0 rfl ?_
    refine ev_iload_n (j := 1) dX12_runs_12 rfl rfl ?_
    refine ev_iconst dX12_runs_13 ?_
    obtain ⟨s8, h9⟩ := h7
    refine ev_iast dX12_runs_14 dm8_11 ar8_11 (by decide) s8 c5 ?_
    refine ev_iinc (j := 1) dX12_runs_15 rfl (by decide) rfl ?_
    refine ev_goto 2 dX12_runs_18 (by decide) ?_
    exact ev_sub [1, 0] rfl h9
set_option maxRecDepth 20000 in
set_option maxHeartbeats 4000000 in
theorem bX12_runs_23 {G : GT} {K : List Value → Mem → Prop} {X : String → Mem → Prop} {M : Mem} {v1 : Int} (h : I32 v1 ∧ ((¬ v1 < 360 → eX12_runs G K X 67 [(0, rr G 8 0 0), (1, iv 0)] [] (wr (wr (wr M 8 0 0 18 0) 8 0 0 19 0) 8 0 0 20 0)) ∧ (v1 < 360 → 0 ≤ v1 ∧ eX12_runs G K X 23 [(0, rr G 8 0 0), (1, iv (v1 + 1))] [] (wr (wr M 8 0 12 v1 (-1)) 8 0 13 v1 (-1))))) : eX12_runs G K X 23 [(0, rr G 8 0 0), (1, iv v1)] [] M := by
  show Ex G zX12_runs 4 0 K X 0 23 [(0, rr G 8 0 0), (1, iv v1)] [] M
  refine ev_iload_n (j := 1) dX12_runs_23 rfl rfl ?_
  refine ev_sipush dX12_runs_24 (by decide) ?_
  obtain ⟨s1, h2⟩ := h
  obtain ⟨h3, h4⟩ := h2
  refine ev_icmp_ge 50 dX12_runs_27 (by decide) s1 ⟨by decide, by decide⟩ (fun c5 => ?_) (fun c5 => ?_)
  · have h6 := h3 c5
    refine ev_aload_n (j := 0) dX12_runs_50 rfl rfl ?_
    refine ev_iconst dX12_runs_51 ?_
    refine ev_put fwX12_248 dX12_runs_52 dm8_0 en8_0 rfl rfl rfl (Nat.le_of_ble_eq_true rfl) ?_
    refine ev_aload_n (j := 0) dX12_runs_55 rfl rfl ?_
    refine ev_iconst dX12_runs_56 ?_
    refine ev_put fwX12_251 dX12_runs_57 dm8_0 en8_0 rfl rfl rfl (Nat.le_of_ble_eq_true rfl) ?_
    refine ev_aload_n (j := 0) dX12_runs_60 rfl rfl ?_
    refine ev_iconst dX12_runs_61 ?_
    refine ev_put fwX12_254 dX12_runs_62 dm8_0 en8_0 rfl rfl rfl (Nat.le_of_ble_eq_true rfl) ?_
    refine ev_iconst dX12_runs_65 ?_
    refine ev_istore_n dX12_runs_66 rfl (by decide) rfl ?_
    exact ev_sub [1, 0] rfl h6
  · have h7 := h4 c5
    refine ev_aload_n (j := 0) dX12_runs_30 rfl rfl ?_
    refine ev_get frX12_43 dX12_runs_31 dm8_0 en8_0 rfl ?_
    refine ev_iload_n (j := 1) dX12_runs_34 rfl rfl ?_
    refine ev_iconst dX12_runs_35 ?_
    obtain ⟨s8, h9⟩ := h7
    refine ev_iast dX12_runs_36 dm8_12 ar8_12 (by decide) s8 c5 ?_
    refine ev_aload_n (j := 0) dX12_runs_37 rfl rfl ?_
    refine ev_get frX12_46 dX12_runs_38 dm8_0 en8_0 rfl ?_
    refine ev_iload_n (j := 1) dX12_runs_41 rfl rfl ?_
    refine ev_iconst dX12_runs_42 ?_
    refine ev_iast dX12_runs_43 dm8_13 ar8_13 (by decide) s8 c5 ?_
    refine ev_iinc (j := 1) dX12_runs_44 rfl (by decide) rfl ?_
    refine ev_goto 23 dX12_runs_47 (by decide) ?_
    exact ev_sub [1, 0] rfl h9
set_option maxRecDepth 20000 in
set_option maxHeartbeats 4000000 in
theorem bX12_runs_67 {G : GT} {K : List Value → Mem → Prop} {X : String → Mem → Prop} {M : Mem} {v1 : Int} (h : I32 v1 ∧ I32 (M 8 0 1 160) ∧ ((¬ v1 < (M 8 0 1 160) → Call G 1 0 zX12_earliest [rr G 8 0 0] M (kI (fun x10 M8 => eX12_runs G K X 117 [(0, rr G 8 0 0), (1, iv x10)] [] M8)) noX) ∧ (v1 < (M 8 0 1 160) → 0 ≤ v1 ∧ v1 < 10 ∧ 0 ≤ 171 + v1 ∧ 171 + v1 < 500 ∧ I32 (M 8 0 1 (171 + v1)) ∧ ((¬ 0 < (M 8 0 1 (171 + v1)) → eX12_runs G K X 67 [(0, rr G 8 0 0), (1, iv (v1 + 1))] [] (wr M 8 0 8 v1 (-1))) ∧ (0 < (M 8 0 1 (171 + v1)) → Call G 1 0 zX12_startsTrip [rr G 8 0 0, iv v1, iv 0, iv 0] (wr M 8 0 8 v1 (-1)) (kV (fun M25 => eX12_runs G K X 67 [(0, rr G 8 0 0), (1, iv (v1 + 1))] [] M25)) noX))))) : eX12_runs G K X 67 [(0, rr G 8 0 0), (1, iv v1)] [] M := by
  show Ex G zX12_runs 4 0 K X 0 67 [(0, rr G 8 0 0), (1, iv v1)] [] M
  refine ev_iload_n (j := 1) dX12_runs_67 rfl rfl ?_
  refine ev_aload_n (j := 0) dX12_runs_68 rfl rfl ?_
  refine ev_get frX12_7 dX12_runs_69 dm8_0 en8_0 rfl ?_
  refine ev_sipush dX12_runs_72 (by decide) ?_
  refine ev_iald dX12_runs_75 dm8_1 ar8_1 (by decide) (by decide) (by decide) ?_
  obtain ⟨s1, s2, h3⟩ := h
  obtain ⟨h4, h5⟩ := h3
  refine ev_icmp_ge 112 dX12_runs_76 (by decide) s1 s2 (fun c6 => ?_) (fun c6 => ?_)
  · have h7 := h4 c6
    refine ev_aload_n (j := 0) dX12_runs_112 rfl rfl ?_
    refine ev_callVI (As := []) (st := []) mfX12_earliest mlX12_260 dX12_runs_113 rfl dm8_0 en8_0 rfl rfl rfl (by decide) (by decide) (by decide) (Nat.le_of_ble_eq_true rfl) (fun _ _ z => z.elim) h7 (fun x10 M8 h9 => ?_)
    refine ev_istore_n dX12_runs_116 rfl (by decide) rfl ?_
    exact ev_sub [1, 0] rfl h9
  · have h11 := h5 c6
    refine ev_aload_n (j := 0) dX12_runs_79 rfl rfl ?_
    refine ev_get frX12_31 dX12_runs_80 dm8_0 en8_0 rfl ?_
    refine ev_iload_n (j := 1) dX12_runs_83 rfl rfl ?_
    refine ev_iconst dX12_runs_84 ?_
    obtain ⟨s12, s13, h14⟩ := h11
    refine ev_iast dX12_runs_85 dm8_8 ar8_8 (by decide) s12 s13 ?_
    refine ev_aload_n (j := 0) dX12_runs_86 rfl rfl ?_
    refine ev_get frX12_7 dX12_runs_87 dm8_0 en8_0 rfl ?_
    refine ev_sipush dX12_runs_90 (by decide) ?_
    refine ev_iload_n (j := 1) dX12_runs_93 rfl rfl ?_
    refine ev_iadd dX12_runs_94 ?_
    obtain ⟨s15, s16, h17⟩ := h14
    refine ev_iald dX12_runs_95 dm8_1 ar8_1 (by decide) s15 s16 ?_
    refine ev_topI (b := M 8 0 1 (171 + v1)) rfl ?_
    obtain ⟨s18, h19⟩ := h17
    obtain ⟨h20, h21⟩ := h19
    refine ev_if_le 106 dX12_runs_96 (by decide) s18 (fun c22 => ?_) (fun c22 => ?_)
    · have h23 := h20 c22
      refine ev_iinc (j := 1) dX12_runs_106 rfl (by decide) rfl ?_
      refine ev_goto 67 dX12_runs_109 (by decide) ?_
      exact ev_sub [1, 0] rfl h23
    · have h24 := h21 c22
      refine ev_aload_n (j := 0) dX12_runs_99 rfl rfl ?_
      refine ev_iload_n (j := 1) dX12_runs_100 rfl rfl ?_
      refine ev_iconst dX12_runs_101 ?_
      refine ev_iconst dX12_runs_102 ?_
      refine ev_callVV (As := [iv v1, iv 0, iv 0]) (st := []) mfX12_startsTrip mlX12_257 dX12_runs_103 rfl dm8_0 en8_0 rfl rfl rfl (by decide) (by decide) (by decide) (Nat.le_of_ble_eq_true rfl) (fun _ _ z => z.elim) h24 (fun M25 h26 => ?_)
      refine ev_iinc (j := 1) dX12_runs_106 rfl (by decide) rfl ?_
      refine ev_goto 67 dX12_runs_109 (by decide) ?_
      exact ev_sub [1, 0] rfl h26
set_option maxRecDepth 20000 in
set_option maxHeartbeats 4000000 in
theorem bX12_runs_117 {G : GT} {K : List Value → Mem → Prop} {X : String → Mem → Prop} {M : Mem} {v1 : Int} (h : I32 v1 ∧ ((v1 < 0 → K [] M) ∧ (¬ v1 < 0 → Call G 3 0 zX12_looks [rr G 8 0 0, iv v1] M (kV (fun M8 => Call G 1 0 zX12_earliest [rr G 8 0 0] M8 (kI (fun x13 M11 => eX12_runs G K X 117 [(0, rr G 8 0 0), (1, iv x13)] [] M11)) noX)) noX))) : eX12_runs G K X 117 [(0, rr G 8 0 0), (1, iv v1)] [] M := by
  show Ex G zX12_runs 4 0 K X 0 117 [(0, rr G 8 0 0), (1, iv v1)] [] M
  refine ev_iload_n (j := 1) dX12_runs_117 rfl rfl ?_
  obtain ⟨s1, h2⟩ := h
  obtain ⟨h3, h4⟩ := h2
  refine ev_if_lt 134 dX12_runs_118 (by decide) s1 (fun c5 => ?_) (fun c5 => ?_)
  · have h6 := h3 c5
    exact ev_vret dX12_runs_134 (by decide) rfl h6
  · have h7 := h4 c5
    refine ev_aload_n (j := 0) dX12_runs_121 rfl rfl ?_
    refine ev_iload_n (j := 1) dX12_runs_122 rfl rfl ?_
    refine ev_callVV (As := [iv v1]) (st := []) mfX12_looks mlX12_263 dX12_runs_123 rfl dm8_0 en8_0 rfl rfl rfl (by decide) (by decide) (by decide) (Nat.le_of_ble_eq_true rfl) (fun _ _ z => z.elim) h7 (fun M8 h9 => ?_)
    refine ev_aload_n (j := 0) dX12_runs_126 rfl rfl ?_
    refine ev_callVI (As := []) (st := []) mfX12_earliest mlX12_260 dX12_runs_127 rfl dm8_0 en8_0 rfl rfl rfl (by decide) (by decide) (by decide) (Nat.le_of_ble_eq_true rfl) (fun _ _ z => z.elim) h9 (fun x13 M11 h12 => ?_)
    refine ev_istore_n dX12_runs_130 rfl (by decide) rfl ?_
    refine ev_goto 117 dX12_runs_131 (by decide) ?_
    exact ev_sub [1, 0] rfl h12
def eX12_save (G : GT) (K : List Value → Mem → Prop) (X : String → Mem → Prop) (pc : Nat) (lv : List (Nat × Value)) (st : List Value) (M : Mem) : Prop := Ex G zX12_save 1 0 K X 0 pc lv st M
set_option maxRecDepth 20000 in
set_option maxHeartbeats 4000000 in
theorem bX12_save {G : GT} {K : List Value → Mem → Prop} {X : String → Mem → Prop} {M : Mem} (h : Call G 0 0 zX12_copies [rr G 8 0 0, rr G 8 0 1, rr G 8 0 2] (wr (wr M 8 0 0 7 0) 8 0 0 3 1) (kV (fun M1 => K [] M1)) noX) : Call G 1 0 zX12_save [rr G 8 0 0] M K X := by
  refine call_intro (lv := [(0, rr G 8 0 0)]) (by decide) rfl (Nat.le_of_ble_eq_true rfl) rfl ?_
  refine ev_aload_n (j := 0) dX12_save_0 rfl rfl ?_
  refine ev_iconst dX12_save_1 ?_
  refine ev_put fwX12_84 dX12_save_2 dm8_0 en8_0 rfl rfl rfl (Nat.le_of_ble_eq_true rfl) ?_
  refine ev_aload_n (j := 0) dX12_save_5 rfl rfl ?_
  refine ev_iconst dX12_save_6 ?_
  refine ev_put fwX12_105 dX12_save_7 dm8_0 en8_0 rfl (by decide) (by decide) (Nat.le_of_ble_eq_true rfl) ?_
  refine ev_aload_n (j := 0) dX12_save_10 rfl rfl ?_
  refine ev_aload_n (j := 0) dX12_save_11 rfl rfl ?_
  refine ev_get frX12_7 dX12_save_12 dm8_0 en8_0 rfl ?_
  refine ev_aload_n (j := 0) dX12_save_15 rfl rfl ?_
  refine ev_get frX12_13 dX12_save_16 dm8_0 en8_0 rfl ?_
  refine ev_callVV (As := [rr G 8 0 1, rr G 8 0 2]) (st := []) mfX12_copies mlX12_94 dX12_save_19 rfl dm8_0 en8_0 rfl rfl rfl (by decide) (by decide) (by decide) (Nat.le_of_ble_eq_true rfl) (fun _ _ z => z.elim) h (fun M1 h2 => ?_)
  exact ev_vret dX12_save_22 (by decide) rfl h2
def eX12_set (G : GT) (K : List Value → Mem → Prop) (X : String → Mem → Prop) (pc : Nat) (lv : List (Nat × Value)) (st : List Value) (M : Mem) : Prop := Ex G zX12_set 5 0 K X 0 pc lv st M
set_option maxRecDepth 20000 in
set_option maxHeartbeats 4000000 in
theorem bX12_set {G : GT} {K : List Value → Mem → Prop} {X : String → Mem → Prop} {M : Mem} {v1 v2 : Int} (h : I32 v1 ∧ ((¬ v1 = 0 → ((¬ v1 = 1 → Call G 0 0 zX12_in [iv v2, iv 0, iv 10] M (kI (fun x13 M11 => Call G 0 0 zX12_in [iv v1, iv 0, iv 2] M11 (kI (fun x16 M14 => I32 x16 ∧ ((x16 = 0 → K [iv 0] (wr M14 8 0 0 7 1)) ∧ (¬ x16 = 0 → I32 x13 ∧ ((x13 = 0 → K [iv 0] (wr M14 8 0 0 7 2)) ∧ (¬ x13 = 0 → Call G 1 0 zX12_begins [rr G 8 0 0] (wr M14 8 0 0 7 0) (kV (fun M31 => 0 ≤ 34 + v1 ∧ 34 + v1 < 500 ∧ Call G 4 0 zX12_stands [rr G 8 0 0] (wr M31 8 0 1 (34 + v1) v2) (kI (fun x39 M37 => I32 x39 ∧ ((x39 = 0 → Call G 0 0 zX12_fails [rr G 8 0 0, iv 3] M37 (kI (fun x48 M46 => K [iv x48] M46)) noX) ∧ (¬ x39 = 0 → K [iv (M31 8 0 1 (34 + v1))] M37)))) noX)) noX)))))) noX)) noX) ∧ (v1 = 1 → Call G 0 0 zX12_in [iv v2, iv 1, iv 30] M (kI (fun x53 M51 => Call G 0 0 zX12_in [iv v1, iv 0, iv 2] M51 (kI (fun x56 M54 => I32 x56 ∧ ((x56 = 0 → K [iv 0] (wr M54 8 0 0 7 1)) ∧ (¬ x56 = 0 → I32 x53 ∧ ((x53 = 0 → K [iv 0] (wr M54 8 0 0 7 2)) ∧ (¬ x53 = 0 → Call G 1 0 zX12_begins [rr G 8 0 0] (wr M54 8 0 0 7 0) (kV (fun M71 => 0 ≤ 34 + v1 ∧ 34 + v1 < 500 ∧ Call G 4 0 zX12_stands [rr G 8 0 0] (wr M71 8 0 1 (34 + v1) v2) (kI (fun x79 M77 => I32 x79 ∧ ((x79 = 0 → Call G 0 0 zX12_fails [rr G 8 0 0, iv 3] M77 (kI (fun x88 M86 => K [iv x88] M86)) noX) ∧ (¬ x79 = 0 → K [iv (M71 8 0 1 (34 + v1))] M77)))) noX)) noX)))))) noX)) noX))) ∧ (v1 = 0 → Call G 0 0 zX12_in [iv v2, iv 0, iv 20] M (kI (fun x93 M91 => Call G 0 0 zX12_in [iv v1, iv 0, iv 2] M91 (kI (fun x96 M94 => I32 x96 ∧ ((x96 = 0 → K [iv 0] (wr M94 8 0 0 7 1)) ∧ (¬ x96 = 0 → I32 x93 ∧ ((x93 = 0 → K [iv 0] (wr M94 8 0 0 7 2)) ∧ (¬ x93 = 0 → Call G 1 0 zX12_begins [rr G 8 0 0] (wr M94 8 0 0 7 0) (kV (fun M111 => 0 ≤ 34 + v1 ∧ 34 + v1 < 500 ∧ Call G 4 0 zX12_stands [rr G 8 0 0] (wr M111 8 0 1 (34 + v1) v2) (kI (fun x119 M117 => I32 x119 ∧ ((x119 = 0 → Call G 0 0 zX12_fails [rr G 8 0 0, iv 3] M117 (kI (fun x128 M126 => K [iv x128] M126)) noX) ∧ (¬ x119 = 0 → K [iv (M111 8 0 1 (34 + v1))] M117)))) noX)) noX)))))) noX)) noX))) : Call G 5 0 zX12_set [rr G 8 0 0, iv v1, iv v2] M K X := by
  refine call_intro (lv := [(0, rr G 8 0 0), (1, iv v1), (2, iv v2)]) (by decide) rfl (Nat.le_of_ble_eq_true rfl) rfl ?_
  refine ev_iload_n (j := 1) dX12_set_0 rfl rfl ?_
  obtain ⟨s1, h2⟩ := h
  obtain ⟨h3, h4⟩ := h2
  refine ev_if_ne 14 dX12_set_1 (by decide) s1 (fun c5 => ?_) (fun c5 => ?_)
  · have h6 := h3 c5
    refine ev_iload_n (j := 1) dX12_set_14 rfl rfl ?_
    refine ev_iconst dX12_set_15 ?_
    obtain ⟨h7, h8⟩ := h6
    refine ev_icmp_ne 29 dX12_set_16 (by decide) s1 ⟨by decide, by decide⟩ (fun c9 => ?_) (fun c9 => ?_)
    · have h10 := h7 c9
      refine ev_iload_n (j := 2) dX12_set_29 rfl rfl ?_
      refine ev_iconst dX12_set_30 ?_
      refine ev_bipush dX12_set_31 (by decide) ?_
      refine ev_callSI (As := [iv v2, iv 0, iv 10]) (st := []) mfX12_in mlX12_87 dX12_set_33 rfl rfl (by decide) (by decide) (by decide) (Nat.le_of_ble_eq_true rfl) (fun _ _ z => z.elim) h10 (fun x13 M11 h12 => ?_)
      refine ev_istore_n dX12_set_36 rfl (by decide) rfl ?_
      refine ev_aload_n (j := 1) dX12_set_37 rfl rfl ?_
      refine ev_iload_n (j := 2) dX12_set_38 rfl rfl ?_
      refine ev_iconst dX12_set_39 ?_
      refine ev_iconst dX12_set_40 ?_
      refine ev_callSI (As := [iv v1, iv 0, iv 2]) (st := [rr G 8 0 0]) mfX12_in mlX12_87 dX12_set_41 rfl rfl (by decide) (by decide) (by decide) (Nat.le_of_ble_eq_true rfl) (fun _ _ z => z.elim) h12 (fun x16 M14 h15 => ?_)
      obtain ⟨s17, h18⟩ := h15
      obtain ⟨h19, h20⟩ := h18
      refine ev_if_eq 59 dX12_set_44 (by decide) s17 (fun c21 => ?_) (fun c21 => ?_)
      · have h22 := h19 c21
        refine ev_iconst dX12_set_59 ?_
        refine ev_put fwX12_84 dX12_set_60 dm8_0 en8_0 rfl rfl rfl (Nat.le_of_ble_eq_true rfl) ?_
        refine ev_aload_n (j := 1) dX12_set_63 rfl rfl ?_
        refine ev_get frX12_84 dX12_set_64 dm8_0 en8_0 rfl ?_
        refine ev_topI (b := 1) rfl ?_
        refine ev_if_le 72 dX12_set_67 (by decide) ⟨by decide, by decide⟩ (fun c9 => absurd c9 (by decide)) (fun _ => ?_)
        refine ev_iconst dX12_set_70 ?_
        exact ev_iret dX12_set_71 (by decide) rfl h22
      · have h23 := h20 c21
        refine ev_iload_n (j := 0) dX12_set_47 rfl rfl ?_
        obtain ⟨s24, h25⟩ := h23
        obtain ⟨h26, h27⟩ := h25
        refine ev_if_eq 55 dX12_set_48 (by decide) s24 (fun c28 => ?_) (fun c28 => ?_)
        · have h29 := h26 c28
          refine ev_iconst dX12_set_55 ?_
          refine ev_goto 60 dX12_set_56 (by decide) ?_
          refine ev_put fwX12_84 dX12_set_60 dm8_0 en8_0 rfl rfl rfl (Nat.le_of_ble_eq_true rfl) ?_
          refine ev_aload_n (j := 1) dX12_set_63 rfl rfl ?_
          refine ev_get frX12_84 dX12_set_64 dm8_0 en8_0 rfl ?_
          refine ev_topI (b := 2) rfl ?_
          refine ev_if_le 72 dX12_set_67 (by decide) ⟨by decide, by decide⟩ (fun c9 => absurd c9 (by decide)) (fun _ => ?_)
          refine ev_iconst dX12_set_70 ?_
          exact ev_iret dX12_set_71 (by decide) rfl h29
        · have h30 := h27 c28
          refine ev_iconst dX12_set_51 ?_
          refine ev_goto 60 dX12_set_52 (by decide) ?_
          refine ev_put fwX12_84 dX12_set_60 dm8_0 en8_0 rfl rfl rfl (Nat.le_of_ble_eq_true rfl) ?_
          refine ev_aload_n (j := 1) dX12_set_63 rfl rfl ?_
          refine ev_get frX12_84 dX12_set_64 dm8_0 en8_0 rfl ?_
          refine ev_topI (b := 0) rfl ?_
          refine ev_if_le 72 dX12_set_67 (by decide) ⟨by decide, by decide⟩ (fun _ => ?_) (fun c9 => absurd c9 (by decide))
          refine ev_aload_n (j := 1) dX12_set_72 rfl rfl ?_
          refine ev_callVV (As := []) (st := []) mfX12_begins mlX12_139 dX12_set_73 rfl dm8_0 en8_0 rfl rfl rfl (by decide) (by decide) (by decide) (Nat.le_of_ble_eq_true rfl) (fun _ _ z => z.elim) h30 (fun M31 h32 => ?_)
          refine ev_aload_n (j := 1) dX12_set_76 rfl rfl ?_
          refine ev_get frX12_7 dX12_set_77 dm8_0 en8_0 rfl ?_
          refine ev_bipush dX12_set_80 (by decide) ?_
          refine ev_iload_n (j := 2) dX12_set_82 rfl rfl ?_
          refine ev_iadd dX12_set_83 ?_
          obtain ⟨s34, s35, h36⟩ := h32
          refine ev_iald dX12_set_84 dm8_1 ar8_1 (by decide) s34 s35 ?_
          refine ev_istore dX12_set_85 (by decide) rfl ?_
          refine ev_aload_n (j := 2) dX12_set_87 rfl rfl ?_
          refine ev_get frX12_7 dX12_set_88 dm8_0 en8_0 rfl ?_
          refine ev_bipush dX12_set_91 (by decide) ?_
          refine ev_iload_n (j := 3) dX12_set_93 rfl rfl ?_
          refine ev_iadd dX12_set_94 ?_
          refine ev_iload_n (j := 4) dX12_set_95 rfl rfl ?_
          refine ev_iast dX12_set_96 dm8_1 ar8_1 (by decide) s34 s35 ?_
          refine ev_aload_n (j := 2) dX12_set_97 rfl rfl ?_
          refine ev_callVI (As := []) (st := []) mfX12_stands mlX12_142 dX12_set_98 rfl dm8_0 en8_0 rfl rfl rfl (by decide) (by decide) (by decide) (Nat.le_of_ble_eq_true rfl) (fun _ _ z => z.elim) h36 (fun x39 M37 h38 => ?_)
          obtain ⟨s40, h41⟩ := h38
          obtain ⟨h42, h43⟩ := h41
          refine ev_if_eq 109 dX12_set_101 (by decide) s40 (fun c44 => ?_) (fun c44 => ?_)
          · have h45 := h42 c44
            refine ev_aload_n (j := 2) dX12_set_109 rfl rfl ?_
            refine ev_iconst dX12_set_110 ?_
            refine ev_callVI (As := [iv 3]) (st := []) mfX12_fails mlX12_146 dX12_set_111 rfl dm8_0 en8_0 rfl rfl rfl (by decide) (by decide) (by decide) (Nat.le_of_ble_eq_true rfl) (fun _ _ z => z.elim) h45 (fun x48 M46 h47 => ?_)
            exact ev_iret dX12_set_114 (by decide) rfl h47
          · have h49 := h43 c44
            refine ev_iload (j := 0) dX12_set_104 rfl ?_
            refine ev_goto 114 dX12_set_106 (by decide) ?_
            exact ev_iret dX12_set_114 (by decide) rfl h49
    · have h50 := h8 c9
      refine ev_iload_n (j := 2) dX12_set_19 rfl rfl ?_
      refine ev_iconst dX12_set_20 ?_
      refine ev_bipush dX12_set_21 (by decide) ?_
      refine ev_callSI (As := [iv v2, iv 1, iv 30]) (st := []) mfX12_in mlX12_87 dX12_set_23 rfl rfl (by decide) (by decide) (by decide) (Nat.le_of_ble_eq_true rfl) (fun _ _ z => z.elim) h50 (fun x53 M51 h52 => ?_)
      refine ev_goto 36 dX12_set_26 (by decide) ?_
      refine ev_istore_n dX12_set_36 rfl (by decide) rfl ?_
      refine ev_aload_n (j := 1) dX12_set_37 rfl rfl ?_
      refine ev_iload_n (j := 2) dX12_set_38 rfl rfl ?_
      refine ev_iconst dX12_set_39 ?_
      refine ev_iconst dX12_set_40 ?_
      refine ev_callSI (As := [iv v1, iv 0, iv 2]) (st := [rr G 8 0 0]) mfX12_in mlX12_87 dX12_set_41 rfl rfl (by decide) (by decide) (by decide) (Nat.le_of_ble_eq_true rfl) (fun _ _ z => z.elim) h52 (fun x56 M54 h55 => ?_)
      obtain ⟨s57, h58⟩ := h55
      obtain ⟨h59, h60⟩ := h58
      refine ev_if_eq 59 dX12_set_44 (by decide) s57 (fun c61 => ?_) (fun c61 => ?_)
      · have h62 := h59 c61
        refine ev_iconst dX12_set_59 ?_
        refine ev_put fwX12_84 dX12_set_60 dm8_0 en8_0 rfl rfl rfl (Nat.le_of_ble_eq_true rfl) ?_
        refine ev_aload_n (j := 1) dX12_set_63 rfl rfl ?_
        refine ev_get frX12_84 dX12_set_64 dm8_0 en8_0 rfl ?_
        refine ev_topI (b := 1) rfl ?_
        refine ev_if_le 72 dX12_set_67 (by decide) ⟨by decide, by decide⟩ (fun c9 => absurd c9 (by decide)) (fun _ => ?_)
        refine ev_iconst dX12_set_70 ?_
        exact ev_iret dX12_set_71 (by decide) rfl h62
      · have h63 := h60 c61
        refine ev_iload_n (j := 0) dX12_set_47 rfl rfl ?_
        obtain ⟨s64, h65⟩ := h63
        obtain ⟨h66, h67⟩ := h65
        refine ev_if_eq 55 dX12_set_48 (by decide) s64 (fun c68 => ?_) (fun c68 => ?_)
        · have h69 := h66 c68
          refine ev_iconst dX12_set_55 ?_
          refine ev_goto 60 dX12_set_56 (by decide) ?_
          refine ev_put fwX12_84 dX12_set_60 dm8_0 en8_0 rfl rfl rfl (Nat.le_of_ble_eq_true rfl) ?_
          refine ev_aload_n (j := 1) dX12_set_63 rfl rfl ?_
          refine ev_get frX12_84 dX12_set_64 dm8_0 en8_0 rfl ?_
          refine ev_topI (b := 2) rfl ?_
          refine ev_if_le 72 dX12_set_67 (by decide) ⟨by decide, by decide⟩ (fun c9 => absurd c9 (by decide)) (fun _ => ?_)
          refine ev_iconst dX12_set_70 ?_
          exact ev_iret dX12_set_71 (by decide) rfl h69
        · have h70 := h67 c68
          refine ev_iconst dX12_set_51 ?_
          refine ev_goto 60 dX12_set_52 (by decide) ?_
          refine ev_put fwX12_84 dX12_set_60 dm8_0 en8_0 rfl rfl rfl (Nat.le_of_ble_eq_true rfl) ?_
          refine ev_aload_n (j := 1) dX12_set_63 rfl rfl ?_
          refine ev_get frX12_84 dX12_set_64 dm8_0 en8_0 rfl ?_
          refine ev_topI (b := 0) rfl ?_
          refine ev_if_le 72 dX12_set_67 (by decide) ⟨by decide, by decide⟩ (fun _ => ?_) (fun c9 => absurd c9 (by decide))
          refine ev_aload_n (j := 1) dX12_set_72 rfl rfl ?_
          refine ev_callVV (As := []) (st := []) mfX12_begins mlX12_139 dX12_set_73 rfl dm8_0 en8_0 rfl rfl rfl (by decide) (by decide) (by decide) (Nat.le_of_ble_eq_true rfl) (fun _ _ z => z.elim) h70 (fun M71 h72 => ?_)
          refine ev_aload_n (j := 1) dX12_set_76 rfl rfl ?_
          refine ev_get frX12_7 dX12_set_77 dm8_0 en8_0 rfl ?_
          refine ev_bipush dX12_set_80 (by decide) ?_
          refine ev_iload_n (j := 2) dX12_set_82 rfl rfl ?_
          refine ev_iadd dX12_set_83 ?_
          obtain ⟨s74, s75, h76⟩ := h72
          refine ev_iald dX12_set_84 dm8_1 ar8_1 (by decide) s74 s75 ?_
          refine ev_istore dX12_set_85 (by decide) rfl ?_
          refine ev_aload_n (j := 2) dX12_set_87 rfl rfl ?_
          refine ev_get frX12_7 dX12_set_88 dm8_0 en8_0 rfl ?_
          refine ev_bipush dX12_set_91 (by decide) ?_
          refine ev_iload_n (j := 3) dX12_set_93 rfl rfl ?_
          refine ev_iadd dX12_set_94 ?_
          refine ev_iload_n (j := 4) dX12_set_95 rfl rfl ?_
          refine ev_iast dX12_set_96 dm8_1 ar8_1 (by decide) s74 s75 ?_
          refine ev_aload_n (j := 2) dX12_set_97 rfl rfl ?_
          refine ev_callVI (As := []) (st := []) mfX12_stands mlX12_142 dX12_set_98 rfl dm8_0 en8_0 rfl rfl rfl (by decide) (by decide) (by decide) (Nat.le_of_ble_eq_true rfl) (fun _ _ z => z.elim) h76 (fun x79 M77 h78 => ?_)
          obtain ⟨s80, h81⟩ := h78
          obtain ⟨h82, h83⟩ := h81
          refine ev_if_eq 109 dX12_set_101 (by decide) s80 (fun c84 => ?_) (fun c84 => ?_)
          · have h85 := h82 c84
            refine ev_aload_n (j := 2) dX12_set_109 rfl rfl ?_
            refine ev_iconst dX12_set_110 ?_
            refine ev_callVI (As := [iv 3]) (st := []) mfX12_fails mlX12_146 dX12_set_111 rfl dm8_0 en8_0 rfl rfl rfl (by decide) (by decide) (by decide) (Nat.le_of_ble_eq_true rfl) (fun _ _ z => z.elim) h85 (fun x88 M86 h87 => ?_)
            exact ev_iret dX12_set_114 (by decide) rfl h87
          · have h89 := h83 c84
            refine ev_iload (j := 0) dX12_set_104 rfl ?_
            refine ev_goto 114 dX12_set_106 (by decide) ?_
            exact ev_iret dX12_set_114 (by decide) rfl h89
  · have h90 := h4 c5
    refine ev_iload_n (j := 2) dX12_set_4 rfl rfl ?_
    refine ev_iconst dX12_set_5 ?_
    refine ev_bipush dX12_set_6 (by decide) ?_
    refine ev_callSI (As := [iv v2, iv 0, iv 20]) (st := []) mfX12_in mlX12_87 dX12_set_8 rfl rfl (by decide) (by decide) (by decide) (Nat.le_of_ble_eq_true rfl) (fun _ _ z => z.elim) h90 (fun x93 M91 h92 => ?_)
    refine ev_goto 36 dX12_set_11 (by decide) ?_
    refine ev_istore_n dX12_set_36 rfl (by decide) rfl ?_
    refine ev_aload_n (j := 1) dX12_set_37 rfl rfl ?_
    refine ev_iload_n (j := 2) dX12_set_38 rfl rfl ?_
    refine ev_iconst dX12_set_39 ?_
    refine ev_iconst dX12_set_40 ?_
    refine ev_callSI (As := [iv v1, iv 0, iv 2]) (st := [rr G 8 0 0]) mfX12_in mlX12_87 dX12_set_41 rfl rfl (by decide) (by decide) (by decide) (Nat.le_of_ble_eq_true rfl) (fun _ _ z => z.elim) h92 (fun x96 M94 h95 => ?_)
    obtain ⟨s97, h98⟩ := h95
    obtain ⟨h99, h100⟩ := h98
    refine ev_if_eq 59 dX12_set_44 (by decide) s97 (fun c101 => ?_) (fun c101 => ?_)
    · have h102 := h99 c101
      refine ev_iconst dX12_set_59 ?_
      refine ev_put fwX12_84 dX12_set_60 dm8_0 en8_0 rfl rfl rfl (Nat.le_of_ble_eq_true rfl) ?_
      refine ev_aload_n (j := 1) dX12_set_63 rfl rfl ?_
      refine ev_get frX12_84 dX12_set_64 dm8_0 en8_0 rfl ?_
      refine ev_topI (b := 1) rfl ?_
      refine ev_if_le 72 dX12_set_67 (by decide) ⟨by decide, by decide⟩ (fun c9 => absurd c9 (by decide)) (fun _ => ?_)
      refine ev_iconst dX12_set_70 ?_
      exact ev_iret dX12_set_71 (by decide) rfl h102
    · have h103 := h100 c101
      refine ev_iload_n (j := 0) dX12_set_47 rfl rfl ?_
      obtain ⟨s104, h105⟩ := h103
      obtain ⟨h106, h107⟩ := h105
      refine ev_if_eq 55 dX12_set_48 (by decide) s104 (fun c108 => ?_) (fun c108 => ?_)
      · have h109 := h106 c108
        refine ev_iconst dX12_set_55 ?_
        refine ev_goto 60 dX12_set_56 (by decide) ?_
        refine ev_put fwX12_84 dX12_set_60 dm8_0 en8_0 rfl rfl rfl (Nat.le_of_ble_eq_true rfl) ?_
        refine ev_aload_n (j := 1) dX12_set_63 rfl rfl ?_
        refine ev_get frX12_84 dX12_set_64 dm8_0 en8_0 rfl ?_
        refine ev_topI (b := 2) rfl ?_
        refine ev_if_le 72 dX12_set_67 (by decide) ⟨by decide, by decide⟩ (fun c9 => absurd c9 (by decide)) (fun _ => ?_)
        refine ev_iconst dX12_set_70 ?_
        exact ev_iret dX12_set_71 (by decide) rfl h109
      · have h110 := h107 c108
        refine ev_iconst dX12_set_51 ?_
        refine ev_goto 60 dX12_set_52 (by decide) ?_
        refine ev_put fwX12_84 dX12_set_60 dm8_0 en8_0 rfl rfl rfl (Nat.le_of_ble_eq_true rfl) ?_
        refine ev_aload_n (j := 1) dX12_set_63 rfl rfl ?_
        refine ev_get frX12_84 dX12_set_64 dm8_0 en8_0 rfl ?_
        refine ev_topI (b := 0) rfl ?_
        refine ev_if_le 72 dX12_set_67 (by decide) ⟨by decide, by decide⟩ (fun _ => ?_) (fun c9 => absurd c9 (by decide))
        refine ev_aload_n (j := 1) dX12_set_72 rfl rfl ?_
        refine ev_callVV (As := []) (st := []) mfX12_begins mlX12_139 dX12_set_73 rfl dm8_0 en8_0 rfl rfl rfl (by decide) (by decide) (by decide) (Nat.le_of_ble_eq_true rfl) (fun _ _ z => z.elim) h110 (fun M111 h112 => ?_)
        refine ev_aload_n (j := 1) dX12_set_76 rfl rfl ?_
        refine ev_get frX12_7 dX12_set_77 dm8_0 en8_0 rfl ?_
        refine ev_bipush dX12_set_80 (by decide) ?_
        refine ev_iload_n (j := 2) dX12_set_82 rfl rfl ?_
        refine ev_iadd dX12_set_83 ?_
        obtain ⟨s114, s115, h116⟩ := h112
        refine ev_iald dX12_set_84 dm8_1 ar8_1 (by decide) s114 s115 ?_
        refine ev_istore dX12_set_85 (by decide) rfl ?_
        refine ev_aload_n (j := 2) dX12_set_87 rfl rfl ?_
        refine ev_get frX12_7 dX12_set_88 dm8_0 en8_0 rfl ?_
        refine ev_bipush dX12_set_91 (by decide) ?_
        refine ev_iload_n (j := 3) dX12_set_93 rfl rfl ?_
        refine ev_iadd dX12_set_94 ?_
        refine ev_iload_n (j := 4) dX12_set_95 rfl rfl ?_
        refine ev_iast dX12_set_96 dm8_1 ar8_1 (by decide) s114 s115 ?_
        refine ev_aload_n (j := 2) dX12_set_97 rfl rfl ?_
        refine ev_callVI (As := []) (st := []) mfX12_stands mlX12_142 dX12_set_98 rfl dm8_0 en8_0 rfl rfl rfl (by decide) (by decide) (by decide) (Nat.le_of_ble_eq_true rfl) (fun _ _ z => z.elim) h116 (fun x119 M117 h118 => ?_)
        obtain ⟨s120, h121⟩ := h118
        obtain ⟨h122, h123⟩ := h121
        refine ev_if_eq 109 dX12_set_101 (by decide) s120 (fun c124 => ?_) (fun c124 => ?_)
        · have h125 := h122 c124
          refine ev_aload_n (j := 2) dX12_set_109 rfl rfl ?_
          refine ev_iconst dX12_set_110 ?_
          refine ev_callVI (As := [iv 3]) (st := []) mfX12_fails mlX12_146 dX12_set_111 rfl dm8_0 en8_0 rfl rfl rfl (by decide) (by decide) (by decide) (Nat.le_of_ble_eq_true rfl) (fun _ _ z => z.elim) h125 (fun x128 M126 h127 => ?_)
          exact ev_iret dX12_set_114 (by decide) rfl h127
        · have h129 := h123 c124
          refine ev_iload (j := 0) dX12_set_104 rfl ?_
          refine ev_goto 114 dX12_set_106 (by decide) ?_
          exact ev_iret dX12_set_114 (by decide) rfl h129
def eX12_setSection (G : GT) (K : List Value → Mem → Prop) (X : String → Mem → Prop) (pc : Nat) (lv : List (Nat × Value)) (st : List Value) (M : Mem) : Prop := Ex G zX12_setSection 5 0 K X 0 pc lv st M
set_option maxRecDepth 20000 in
set_option maxHeartbeats 4000000 in
theorem bX12_setSection {G : GT} {K : List Value → Mem → Prop} {X : String → Mem → Prop} {M : Mem} {v1 v2 v3 : Int} (h : Call G 1 0 zX12_isSection [iv v1] M (kI (fun x3 M1 => I32 x3 ∧ ((x3 = 0 → K [iv 0] (wr M1 8 0 0 7 1)) ∧ (¬ x3 = 0 → Call G 0 0 zX12_in [iv v2, iv 1, iv 9] M1 (kI (fun x13 M11 => I32 x13 ∧ ((x13 = 0 → K [iv 0] (wr M11 8 0 0 7 2)) ∧ (¬ x13 = 0 → Call G 0 0 zX12_in [iv v3, iv 0, iv 30] M11 (kI (fun x23 M21 => I32 x23 ∧ ((x23 = 0 → K [iv 0] (wr M21 8 0 0 7 2)) ∧ (¬ x23 = 0 → Call G 1 0 zX12_begins [rr G 8 0 0] (wr M21 8 0 0 7 0) (kV (fun M31 => 0 ≤ v1 ∧ v1 < 500 ∧ 0 ≤ 11 + v1 ∧ 11 + v1 < 500 ∧ Call G 4 0 zX12_stands [rr G 8 0 0] (wr (wr M31 8 0 1 v1 v2) 8 0 1 (11 + v1) v3) (kI (fun x42 M40 => I32 x42 ∧ ((x42 = 0 → Call G 0 0 zX12_fails [rr G 8 0 0, iv 3] M40 (kI (fun x51 M49 => K [iv x51] M49)) noX) ∧ (¬ x42 = 0 → K [iv ((10 * (M31 8 0 1 v1)) + (M31 8 0 1 (11 + v1)))] M40)))) noX)) noX)))) noX)))) noX)))) noX) : Call G 5 0 zX12_setSection [rr G 8 0 0, iv v1, iv v2, iv v3] M K X := by
  refine call_intro (lv := [(0, rr G 8 0 0), (1, iv v1), (2, iv v2), (3, iv v3)]) (by decide) rfl (Nat.le_of_ble_eq_true rfl) rfl ?_
  refine ev_aload_n (j := 0) dX12_setSection_0 rfl rfl ?_
  refine ev_iload_n (j := 1) dX12_setSection_1 rfl rfl ?_
  refine ev_callSI (As := [iv v1]) (st := [rr G 8 0 0]) mfX12_isSection mlX12_136 dX12_setSection_2 rfl rfl (by decide) (by decide) (by decide) (Nat.le_of_ble_eq_true rfl) (fun _ _ z => z.elim) h (fun x3 M1 h2 => ?_)
  obtain ⟨s4, h5⟩ := h2
  obtain ⟨h6, h7⟩ := h5
  refine ev_if_eq 36 dX12_setSection_5 (by decide) s4 (fun c8 => ?_) (fun c8 => ?_)
  · have h9 := h6 c8
    refine ev_iconst dX12_setSection_36 ?_
    refine ev_put fwX12_84 dX12_setSection_37 dm8_0 en8_0 rfl rfl rfl (Nat.le_of_ble_eq_true rfl) ?_
    refine ev_aload_n (j := 0) dX12_setSection_40 rfl rfl ?_
    refine ev_get frX12_84 dX12_setSection_41 dm8_0 en8_0 rfl ?_
    refine ev_topI (b := 1) rfl ?_
    refine ev_if_le 49 dX12_setSection_44 (by decide) ⟨by decide, by decide⟩ (fun c9 => absurd c9 (by decide)) (fun _ => ?_)
    refine ev_iconst dX12_setSection_47 ?_
    exact ev_iret dX12_setSection_48 (by decide) rfl h9
  · have h10 := h7 c8
    refine ev_iload_n (j := 2) dX12_setSection_8 rfl rfl ?_
    refine ev_iconst dX12_setSection_9 ?_
    refine ev_bipush dX12_setSection_10 (by decide) ?_
    refine ev_callSI (As := [iv v2, iv 1, iv 9]) (st := [rr G 8 0 0]) mfX12_in mlX12_87 dX12_setSection_12 rfl rfl (by decide) (by decide) (by decide) (Nat.le_of_ble_eq_true rfl) (fun _ _ z => z.elim) h10 (fun x13 M11 h12 => ?_)
    obtain ⟨s14, h15⟩ := h12
    obtain ⟨h16, h17⟩ := h15
    refine ev_if_eq 32 dX12_setSection_15 (by decide) s14 (fun c18 => ?_) (fun c18 => ?_)
    · have h19 := h16 c18
      refine ev_iconst dX12_setSection_32 ?_
      refine ev_goto 37 dX12_setSection_33 (by decide) ?_
      refine ev_put fwX12_84 dX12_setSection_37 dm8_0 en8_0 rfl rfl rfl (Nat.le_of_ble_eq_true rfl) ?_
      refine ev_aload_n (j := 0) dX12_setSection_40 rfl rfl ?_
      refine ev_get frX12_84 dX12_setSection_41 dm8_0 en8_0 rfl ?_
      refine ev_topI (b := 2) rfl ?_
      refine ev_if_le 49 dX12_setSection_44 (by decide) ⟨by decide, by decide⟩ (fun c9 => absurd c9 (by decide)) (fun _ => ?_)
      refine ev_iconst dX12_setSection_47 ?_
      exact ev_iret dX12_setSection_48 (by decide) rfl h19
    · have h20 := h17 c18
      refine ev_iload_n (j := 3) dX12_setSection_18 rfl rfl ?_
      refine ev_iconst dX12_setSection_19 ?_
      refine ev_bipush dX12_setSection_20 (by decide) ?_
      refine ev_callSI (As := [iv v3, iv 0, iv 30]) (st := [rr G 8 0 0]) mfX12_in mlX12_87 dX12_setSection_22 rfl rfl (by decide) (by decide) (by decide) (Nat.le_of_ble_eq_true rfl) (fun _ _ z => z.elim) h20 (fun x23 M21 h22 => ?_)
      obtain ⟨s24, h25⟩ := h22
      obtain ⟨h26, h27⟩ := h25
      refine ev_if_eq 32 dX12_setSection_25 (by decide) s24 (fun c28 => ?_) (fun c28 => ?_)
      · have h29 := h26 c28
        refine ev_iconst dX12_setSection_32 ?_
        refine ev_goto 37 dX12_setSection_33 (by decide) ?_
        refine ev_put fwX12_84 dX12_setSection_37 dm8_0 en8_0 rfl rfl rfl (Nat.le_of_ble_eq_true rfl) ?_
        refine ev_aload_n (j := 0) dX12_setSection_40 rfl rfl ?_
        refine ev_get frX12_84 dX12_setSection_41 dm8_0 en8_0 rfl ?_
        refine ev_topI (b := 2) rfl ?_
        refine ev_if_le 49 dX12_setSection_44 (by decide) ⟨by decide, by decide⟩ (fun c9 => absurd c9 (by decide)) (fun _ => ?_)
        refine ev_iconst dX12_setSection_47 ?_
        exact ev_iret dX12_setSection_48 (by decide) rfl h29
      · have h30 := h27 c28
        refine ev_iconst dX12_setSection_28 ?_
        refine ev_goto 37 dX12_setSection_29 (by decide) ?_
        refine ev_put fwX12_84 dX12_setSection_37 dm8_0 en8_0 rfl rfl rfl (Nat.le_of_ble_eq_true rfl) ?_
        refine ev_aload_n (j := 0) dX12_setSection_40 rfl rfl ?_
        refine ev_get frX12_84 dX12_setSection_41 dm8_0 en8_0 rfl ?_
        refine ev_topI (b := 0) rfl ?_
        refine ev_if_le 49 dX12_setSection_44 (by decide) ⟨by decide, by decide⟩ (fun _ => ?_) (fun c9 => absurd c9 (by decide))
        refine ev_aload_n (j := 0) dX12_setSection_49 rfl rfl ?_
        refine ev_callVV (As := []) (st := []) mfX12_begins mlX12_139 dX12_setSection_50 rfl dm8_0 en8_0 rfl rfl rfl (by decide) (by decide) (by decide) (Nat.le_of_ble_eq_true rfl) (fun _ _ z => z.elim) h30 (fun M31 h32 => ?_)
        refine ev_bipush dX12_setSection_53 (by decide) ?_
        refine ev_aload_n (j := 0) dX12_setSection_55 rfl rfl ?_
        refine ev_get frX12_7 dX12_setSection_56 dm8_0 en8_0 rfl ?_
        refine ev_iload_n (j := 1) dX12_setSection_59 rfl rfl ?_
        obtain ⟨s34, s35, h36⟩ := h32
        refine ev_iald dX12_setSection_60 dm8_1 ar8_1 (by decide) s34 s35 ?_
        refine ev_imul dX12_setSection_61 ?_
        refine ev_aload_n (j := 0) dX12_setSection_62 rfl rfl ?_
        refine ev_get frX12_7 dX12_setSection_63 dm8_0 en8_0 rfl ?_
        refine ev_bipush dX12_setSection_66 (by decide) ?_
        refine ev_iload_n (j := 1) dX12_setSection_68 rfl rfl ?_
        refine ev_iadd dX12_setSection_69 ?_
        obtain ⟨s37, s38, h39⟩ := h36
        refine ev_iald dX12_setSection_70 dm8_1 ar8_1 (by decide) s37 s38 ?_
        refine ev_iadd dX12_setSection_71 ?_
        refine ev_istore dX12_setSection_72 (by decide) rfl ?_
        refine ev_aload_n (j := 1) dX12_setSection_74 rfl rfl ?_
        refine ev_get frX12_7 dX12_setSection_75 dm8_0 en8_0 rfl ?_
        refine ev_iload_n (j := 2) dX12_setSection_78 rfl rfl ?_
        refine ev_iload_n (j := 3) dX12_setSection_79 rfl rfl ?_
        refine ev_iast dX12_setSection_80 dm8_1 ar8_1 (by decide) s34 s35 ?_
        refine ev_aload_n (j := 1) dX12_setSection_81 rfl rfl ?_
        refine ev_get frX12_7 dX12_setSection_82 dm8_0 en8_0 rfl ?_
        refine ev_bipush dX12_setSection_85 (by decide) ?_
        refine ev_iload_n (j := 2) dX12_setSection_87 rfl rfl ?_
        refine ev_iadd dX12_setSection_88 ?_
        refine ev_iload_n (j := 4) dX12_setSection_89 rfl rfl ?_
        refine ev_iast dX12_setSection_90 dm8_1 ar8_1 (by decide) s37 s38 ?_
        refine ev_aload_n (j := 1) dX12_setSection_91 rfl rfl ?_
        refine ev_callVI (As := []) (st := []) mfX12_stands mlX12_142 dX12_setSection_92 rfl dm8_0 en8_0 rfl rfl rfl (by decide) (by decide) (by decide) (Nat.le_of_ble_eq_true rfl) (fun _ _ z => z.elim) h39 (fun x42 M40 h41 => ?_)
        obtain ⟨s43, h44⟩ := h41
        obtain ⟨h45, h46⟩ := h44
        refine ev_if_eq 103 dX12_setSection_95 (by decide) s43 (fun c47 => ?_) (fun c47 => ?_)
        · have h48 := h45 c47
          refine ev_aload_n (j := 1) dX12_setSection_103 rfl rfl ?_
          refine ev_iconst dX12_setSection_104 ?_
          refine ev_callVI (As := [iv 3]) (st := []) mfX12_fails mlX12_146 dX12_setSection_105 rfl dm8_0 en8_0 rfl rfl rfl (by decide) (by decide) (by decide) (Nat.le_of_ble_eq_true rfl) (fun _ _ z => z.elim) h48 (fun x51 M49 h50 => ?_)
          exact ev_iret dX12_setSection_108 (by decide) rfl h50
        · have h52 := h46 c47
          refine ev_iload (j := 0) dX12_setSection_98 rfl ?_
          refine ev_goto 108 dX12_setSection_100 (by decide) ?_
          exact ev_iret dX12_setSection_108 (by decide) rfl h52
def eX12_setTurn (G : GT) (K : List Value → Mem → Prop) (X : String → Mem → Prop) (pc : Nat) (lv : List (Nat × Value)) (st : List Value) (M : Mem) : Prop := Ex G zX12_setTurn 2 0 K X 0 pc lv st M
set_option maxRecDepth 20000 in
set_option maxHeartbeats 4000000 in
theorem bX12_setTurn {G : GT} {K : List Value → Mem → Prop} {X : String → Mem → Prop} {M : Mem} {v1 v2 : Int} (h : Call G 0 0 zX12_in [iv v1, iv 1, iv 10] M (kI (fun x3 M1 => I32 x3 ∧ ((x3 = 0 → K [iv 0] (wr M1 8 0 0 7 1)) ∧ (¬ x3 = 0 → I32 v2 ∧ ((¬ v2 = 0 → Call G 1 0 zX12_begins [rr G 8 0 0] (wr M1 8 0 0 7 0) (kV (fun M17 => 0 ≤ 22 + v1 ∧ 22 + v1 < 500 ∧ I32 (M17 8 0 1 (22 + v1)) ∧ ((¬ (M17 8 0 1 (22 + v1)) = 1 → Call G 0 0 zX12_remembers [rr G 8 0 0] (wr M17 8 0 1 (22 + v1) 1) (kV (fun M29 => K [iv 0] M29)) noX) ∧ ((M17 8 0 1 (22 + v1)) = 1 → Call G 0 0 zX12_remembers [rr G 8 0 0] (wr M17 8 0 1 (22 + v1) 1) (kV (fun M33 => K [iv 1] M33)) noX)))) noX) ∧ (v2 = 0 → Call G 1 0 zX12_isEnd [rr G 8 0 0, iv v1] M1 (kI (fun x39 M37 => I32 x39 ∧ ((x39 = 0 → Call G 1 0 zX12_begins [rr G 8 0 0] (wr M37 8 0 0 7 0) (kV (fun M46 => 0 ≤ 22 + v1 ∧ 22 + v1 < 500 ∧ I32 (M46 8 0 1 (22 + v1)) ∧ ((¬ (M46 8 0 1 (22 + v1)) = 1 → Call G 0 0 zX12_remembers [rr G 8 0 0] (wr M46 8 0 1 (22 + v1) 0) (kV (fun M58 => K [iv 0] M58)) noX) ∧ ((M46 8 0 1 (22 + v1)) = 1 → Call G 0 0 zX12_remembers [rr G 8 0 0] (wr M46 8 0 1 (22 + v1) 0) (kV (fun M62 => K [iv 1] M62)) noX)))) noX) ∧ (¬ x39 = 0 → K [iv 0] (wr M37 8 0 0 7 2))))) noX)))))) noX) : Call G 2 0 zX12_setTurn [rr G 8 0 0, iv v1, iv v2] M K X := by
  refine call_intro (lv := [(0, rr G 8 0 0), (1, iv v1), (2, iv v2)]) (by decide) rfl (Nat.le_of_ble_eq_true rfl) rfl ?_
  refine ev_aload_n (j := 0) dX12_setTurn_0 rfl rfl ?_
  refine ev_iload_n (j := 1) dX12_setTurn_1 rfl rfl ?_
  refine ev_iconst dX12_setTurn_2 ?_
  refine ev_bipush dX12_setTurn_3 (by decide) ?_
  refine ev_callSI (As := [iv v1, iv 1, iv 10]) (st := [rr G 8 0 0]) mfX12_in mlX12_87 dX12_setTurn_5 rfl rfl (by decide) (by decide) (by decide) (Nat.le_of_ble_eq_true rfl) (fun _ _ z => z.elim) h (fun x3 M1 h2 => ?_)
  obtain ⟨s4, h5⟩ := h2
  obtain ⟨h6, h7⟩ := h5
  refine ev_if_eq 31 dX12_setTurn_8 (by decide) s4 (fun c8 => ?_) (fun c8 => ?_)
  · have h9 := h6 c8
    refine ev_iconst dX12_setTurn_31 ?_
    refine ev_put fwX12_84 dX12_setTurn_32 dm8_0 en8_0 rfl rfl rfl (Nat.le_of_ble_eq_true rfl) ?_
    refine ev_aload_n (j := 0) dX12_setTurn_35 rfl rfl ?_
    refine ev_get frX12_84 dX12_setTurn_36 dm8_0 en8_0 rfl ?_
    refine ev_topI (b := 1) rfl ?_
    refine ev_if_le 44 dX12_setTurn_39 (by decide) ⟨by decide, by decide⟩ (fun c9 => absurd c9 (by decide)) (fun _ => ?_)
    refine ev_iconst dX12_setTurn_42 ?_
    exact ev_zret dX12_setTurn_43 (by decide) rfl (by decide) h9
  · have h10 := h7 c8
    refine ev_iload_n (j := 2) dX12_setTurn_11 rfl rfl ?_
    obtain ⟨s11, h12⟩ := h10
    obtain ⟨h13, h14⟩ := h12
    refine ev_if_ne 27 dX12_setTurn_12 (by decide) s11 (fun c15 => ?_) (fun c15 => ?_)
    · have h16 := h13 c15
      refine ev_iconst dX12_setTurn_27 ?_
      refine ev_goto 32 dX12_setTurn_28 (by decide) ?_
      refine ev_put fwX12_84 dX12_setTurn_32 dm8_0 en8_0 rfl rfl rfl (Nat.le_of_ble_eq_true rfl) ?_
      refine ev_aload_n (j := 0) dX12_setTurn_35 rfl rfl ?_
      refine ev_get frX12_84 dX12_setTurn_36 dm8_0 en8_0 rfl ?_
      refine ev_topI (b := 0) rfl ?_
      refine ev_if_le 44 dX12_setTurn_39 (by decide) ⟨by decide, by decide⟩ (fun _ => ?_) (fun c9 => absurd c9 (by decide))
      refine ev_aload_n (j := 0) dX12_setTurn_44 rfl rfl ?_
      refine ev_callVV (As := []) (st := []) mfX12_begins mlX12_139 dX12_setTurn_45 rfl dm8_0 en8_0 rfl rfl rfl (by decide) (by decide) (by decide) (Nat.le_of_ble_eq_true rfl) (fun _ _ z => z.elim) h16 (fun M17 h18 => ?_)
      refine ev_aload_n (j := 0) dX12_setTurn_48 rfl rfl ?_
      refine ev_get frX12_7 dX12_setTurn_49 dm8_0 en8_0 rfl ?_
      refine ev_bipush dX12_setTurn_52 (by decide) ?_
      refine ev_iload_n (j := 1) dX12_setTurn_54 rfl rfl ?_
      refine ev_iadd dX12_setTurn_55 ?_
      obtain ⟨s20, s21, h22⟩ := h18
      refine ev_iald dX12_setTurn_56 dm8_1 ar8_1 (by decide) s20 s21 ?_
      refine ev_iconst dX12_setTurn_57 ?_
      obtain ⟨s23, h24⟩ := h22
      obtain ⟨h25, h26⟩ := h24
      refine ev_icmp_ne 65 dX12_setTurn_58 (by decide) s23 ⟨by decide, by decide⟩ (fun c27 => ?_) (fun c27 => ?_)
      · have h28 := h25 c27
        refine ev_iconst dX12_setTurn_65 ?_
        refine ev_istore_n dX12_setTurn_66 rfl (by decide) rfl ?_
        refine ev_aload_n (j := 1) dX12_setTurn_67 rfl rfl ?_
        refine ev_get frX12_7 dX12_setTurn_68 dm8_0 en8_0 rfl ?_
        refine ev_bipush dX12_setTurn_71 (by decide) ?_
        refine ev_iload_n (j := 2) dX12_setTurn_73 rfl rfl ?_
        refine ev_iadd dX12_setTurn_74 ?_
        refine ev_iload_n (j := 3) dX12_setTurn_75 rfl rfl ?_
        refine ev_if_eq 83 dX12_setTurn_76 (by decide) s11 (fun c9 => absurd c9 c15) (fun _ => ?_)
        refine ev_iconst dX12_setTurn_79 ?_
        refine ev_goto 84 dX12_setTurn_80 (by decide) ?_
        refine ev_iast dX12_setTurn_84 dm8_1 ar8_1 (by decide) s20 s21 ?_
        refine ev_aload_n (j := 1) dX12_setTurn_85 rfl rfl ?_
        refine ev_callVV (As := []) (st := []) mfX12_remembers mlX12_102 dX12_setTurn_86 rfl dm8_0 en8_0 rfl rfl rfl (by decide) (by decide) (by decide) (Nat.le_of_ble_eq_true rfl) (fun _ _ z => z.elim) h28 (fun M29 h30 => ?_)
        refine ev_iload_n (j := 0) dX12_setTurn_89 rfl rfl ?_
        exact ev_zret dX12_setTurn_90 (by decide) rfl (by decide) h30
      · have h32 := h26 c27
        refine ev_iconst dX12_setTurn_61 ?_
        refine ev_goto 66 dX12_setTurn_62 (by decide) ?_
        refine ev_istore_n dX12_setTurn_66 rfl (by decide) rfl ?_
        refine ev_aload_n (j := 1) dX12_setTurn_67 rfl rfl ?_
        refine ev_get frX12_7 dX12_setTurn_68 dm8_0 en8_0 rfl ?_
        refine ev_bipush dX12_setTurn_71 (by decide) ?_
        refine ev_iload_n (j := 2) dX12_setTurn_73 rfl rfl ?_
        refine ev_iadd dX12_setTurn_74 ?_
        refine ev_iload_n (j := 3) dX12_setTurn_75 rfl rfl ?_
        refine ev_if_eq 83 dX12_setTurn_76 (by decide) s11 (fun c9 => absurd c9 c15) (fun _ => ?_)
        refine ev_iconst dX12_setTurn_79 ?_
        refine ev_goto 84 dX12_setTurn_80 (by decide) ?_
        refine ev_iast dX12_setTurn_84 dm8_1 ar8_1 (by decide) s20 s21 ?_
        refine ev_aload_n (j := 1) dX12_setTurn_85 rfl rfl ?_
        refine ev_callVV (As := []) (st := []) mfX12_remembers mlX12_102 dX12_setTurn_86 rfl dm8_0 en8_0 rfl rfl rfl (by decide) (by decide) (by decide) (Nat.le_of_ble_eq_true rfl) (fun _ _ z => z.elim) h32 (fun M33 h34 => ?_)
        refine ev_iload_n (j := 0) dX12_setTurn_89 rfl rfl ?_
        exact ev_zret dX12_setTurn_90 (by decide) rfl (by decide) h34
    · have h36 := h14 c15
      refine ev_aload_n (j := 0) dX12_setTurn_15 rfl rfl ?_
      refine ev_iload_n (j := 1) dX12_setTurn_16 rfl rfl ?_
      refine ev_callVI (As := [iv v1]) (st := [rr G 8 0 0]) mfX12_isEnd mlX12_152 dX12_setTurn_17 rfl dm8_0 en8_0 rfl rfl rfl (by decide) (by decide) (by decide) (Nat.le_of_ble_eq_true rfl) (fun _ _ z => z.elim) h36 (fun x39 M37 h38 => ?_)
      obtain ⟨s40, h41⟩ := h38
      obtain ⟨h42, h43⟩ := h41
      refine ev_if_eq 27 dX12_setTurn_20 (by decide) s40 (fun c44 => ?_) (fun c44 => ?_)
      · have h45 := h42 c44
        refine ev_iconst dX12_setTurn_27 ?_
        refine ev_goto 32 dX12_setTurn_28 (by decide) ?_
        refine ev_put fwX12_84 dX12_setTurn_32 dm8_0 en8_0 rfl rfl rfl (Nat.le_of_ble_eq_true rfl) ?_
        refine ev_aload_n (j := 0) dX12_setTurn_35 rfl rfl ?_
        refine ev_get frX12_84 dX12_setTurn_36 dm8_0 en8_0 rfl ?_
        refine ev_topI (b := 0) rfl ?_
        refine ev_if_le 44 dX12_setTurn_39 (by decide) ⟨by decide, by decide⟩ (fun _ => ?_) (fun c9 => absurd c9 (by decide))
        refine ev_aload_n (j := 0) dX12_setTurn_44 rfl rfl ?_
        refine ev_callVV (As := []) (st := []) mfX12_begins mlX12_139 dX12_setTurn_45 rfl dm8_0 en8_0 rfl rfl rfl (by decide) (by decide) (by decide) (Nat.le_of_ble_eq_true rfl) (fun _ _ z => z.elim) h45 (fun M46 h47 => ?_)
        refine ev_aload_n (j := 0) dX12_setTurn_48 rfl rfl ?_
        refine ev_get frX12_7 dX12_setTurn_49 dm8_0 en8_0 rfl ?_
        refine ev_bipush dX12_setTurn_52 (by decide) ?_
        refine ev_iload_n (j := 1) dX12_setTurn_54 rfl rfl ?_
        refine ev_iadd dX12_setTurn_55 ?_
        obtain ⟨s49, s50, h51⟩ := h47
        refine ev_iald dX12_setTurn_56 dm8_1 ar8_1 (by decide) s49 s50 ?_
        refine ev_iconst dX12_setTurn_57 ?_
        obtain ⟨s52, h53⟩ := h51
        obtain ⟨h54, h55⟩ := h53
        refine ev_icmp_ne 65 dX12_setTurn_58 (by decide) s52 ⟨by decide, by decide⟩ (fun c56 => ?_) (fun c56 => ?_)
        · have h57 := h54 c56
          refine ev_iconst dX12_setTurn_65 ?_
          refine ev_istore_n dX12_setTurn_66 rfl (by decide) rfl ?_
          refine ev_aload_n (j := 1) dX12_setTurn_67 rfl rfl ?_
          refine ev_get frX12_7 dX12_setTurn_68 dm8_0 en8_0 rfl ?_
          refine ev_bipush dX12_setTurn_71 (by decide) ?_
          refine ev_iload_n (j := 2) dX12_setTurn_73 rfl rfl ?_
          refine ev_iadd dX12_setTurn_74 ?_
          refine ev_iload_n (j := 3) dX12_setTurn_75 rfl rfl ?_
          refine ev_if_eq 83 dX12_setTurn_76 (by decide) s11 (fun _ => ?_) (fun c9 => absurd c15 c9)
          refine ev_iconst dX12_setTurn_83 ?_
          refine ev_iast dX12_setTurn_84 dm8_1 ar8_1 (by decide) s49 s50 ?_
          refine ev_aload_n (j := 1) dX12_setTurn_85 rfl rfl ?_
          refine ev_callVV (As := []) (st := []) mfX12_remembers mlX12_102 dX12_setTurn_86 rfl dm8_0 en8_0 rfl rfl rfl (by decide) (by decide) (by decide) (Nat.le_of_ble_eq_true rfl) (fun _ _ z => z.elim) h57 (fun M58 h59 => ?_)
          refine ev_iload_n (j := 0) dX12_setTurn_89 rfl rfl ?_
          exact ev_zret dX12_setTurn_90 (by decide) rfl (by decide) h59
        · have h61 := h55 c56
          refine ev_iconst dX12_setTurn_61 ?_
          refine ev_goto 66 dX12_setTurn_62 (by decide) ?_
          refine ev_istore_n dX12_setTurn_66 rfl (by decide) rfl ?_
          refine ev_aload_n (j := 1) dX12_setTurn_67 rfl rfl ?_
          refine ev_get frX12_7 dX12_setTurn_68 dm8_0 en8_0 rfl ?_
          refine ev_bipush dX12_setTurn_71 (by decide) ?_
          refine ev_iload_n (j := 2) dX12_setTurn_73 rfl rfl ?_
          refine ev_iadd dX12_setTurn_74 ?_
          refine ev_iload_n (j := 3) dX12_setTurn_75 rfl rfl ?_
          refine ev_if_eq 83 dX12_setTurn_76 (by decide) s11 (fun _ => ?_) (fun c9 => absurd c15 c9)
          refine ev_iconst dX12_setTurn_83 ?_
          refine ev_iast dX12_setTurn_84 dm8_1 ar8_1 (by decide) s49 s50 ?_
          refine ev_aload_n (j := 1) dX12_setTurn_85 rfl rfl ?_
          refine ev_callVV (As := []) (st := []) mfX12_remembers mlX12_102 dX12_setTurn_86 rfl dm8_0 en8_0 rfl rfl rfl (by decide) (by decide) (by decide) (Nat.le_of_ble_eq_true rfl) (fun _ _ z => z.elim) h61 (fun M62 h63 => ?_)
          refine ev_iload_n (j := 0) dX12_setTurn_89 rfl rfl ?_
          exact ev_zret dX12_setTurn_90 (by decide) rfl (by decide) h63
      · have h65 := h43 c44
        refine ev_iconst dX12_setTurn_23 ?_
        refine ev_goto 32 dX12_setTurn_24 (by decide) ?_
        refine ev_put fwX12_84 dX12_setTurn_32 dm8_0 en8_0 rfl rfl rfl (Nat.le_of_ble_eq_true rfl) ?_
        refine ev_aload_n (j := 0) dX12_setTurn_35 rfl rfl ?_
        refine ev_get frX12_84 dX12_setTurn_36 dm8_0 en8_0 rfl ?_
        refine ev_topI (b := 2) rfl ?_
        refine ev_if_le 44 dX12_setTurn_39 (by decide) ⟨by decide, by decide⟩ (fun c9 => absurd c9 (by decide)) (fun _ => ?_)
        refine ev_iconst dX12_setTurn_42 ?_
        exact ev_zret dX12_setTurn_43 (by decide) rfl (by decide) h65
def eX12_skips (G : GT) (K : List Value → Mem → Prop) (X : String → Mem → Prop) (pc : Nat) (lv : List (Nat × Value)) (st : List Value) (M : Mem) : Prop := Ex G zX12_skips 1 0 K X 0 pc lv st M
set_option maxRecDepth 20000 in
set_option maxHeartbeats 4000000 in
theorem bX12_skips {G : GT} {K : List Value → Mem → Prop} {X : String → Mem → Prop} {M : Mem} {v1 : Int} (h : Call G 0 0 zX12_here [rr G 8 0 0] M (kI (fun x3 M1 => I32 x3 ∧ I32 v1 ∧ ((x3 = v1 → K [iv 1] (wr M1 8 0 0 34 ((M1 8 0 0 34) + 1))) ∧ (¬ x3 = v1 → K [iv 0] M1)))) noX) : Call G 1 0 zX12_skips [rr G 8 0 0, iv v1] M K X := by
  refine call_intro (lv := [(0, rr G 8 0 0), (1, iv v1)]) (by decide) rfl (Nat.le_of_ble_eq_true rfl) rfl ?_
  refine ev_aload_n (j := 0) dX12_skips_0 rfl rfl ?_
  refine ev_callVI (As := []) (st := []) mfX12_here mlX12_335 dX12_skips_1 rfl dm8_0 en8_0 rfl rfl rfl (by decide) (by decide) (by decide) (Nat.le_of_ble_eq_true rfl) (fun _ _ z => z.elim) h (fun x3 M1 h2 => ?_)
  refine ev_iload_n (j := 1) dX12_skips_4 rfl rfl ?_
  obtain ⟨s4, s5, h6⟩ := h2
  obtain ⟨h7, h8⟩ := h6
  refine ev_icmp_eq 10 dX12_skips_5 (by decide) s4 s5 (fun c9 => ?_) (fun c9 => ?_)
  · have h10 := h7 c9
    refine ev_aload_n (j := 0) dX12_skips_10 rfl rfl ?_
    refine ev_dup dX12_skips_11 rfl ?_
    refine ev_get frX12_332 dX12_skips_12 dm8_0 en8_0 rfl ?_
    refine ev_iconst dX12_skips_15 ?_
    refine ev_iadd dX12_skips_16 ?_
    refine ev_put fwX12_332 dX12_skips_17 dm8_0 en8_0 rfl rfl rfl (Nat.le_of_ble_eq_true rfl) ?_
    refine ev_iconst dX12_skips_20 ?_
    exact ev_zret dX12_skips_21 (by decide) rfl (by decide) h10
  · have h11 := h8 c9
    refine ev_iconst dX12_skips_8 ?_
    exact ev_zret dX12_skips_9 (by decide) rfl (by decide) h11
def eX12_stands (G : GT) (K : List Value → Mem → Prop) (X : String → Mem → Prop) (pc : Nat) (lv : List (Nat × Value)) (st : List Value) (M : Mem) : Prop := Ex G zX12_stands 4 0 K X 0 pc lv st M
set_option maxRecDepth 20000 in
set_option maxHeartbeats 4000000 in
theorem bX12_stands {G : GT} {K : List Value → Mem → Prop} {X : String → Mem → Prop} {M : Mem} (h : eX12_stands G K X 2 [(0, rr G 8 0 0), (1, iv 0)] [] M) : Call G 4 0 zX12_stands [rr G 8 0 0] M K X := by
  refine call_intro (lv := [(0, rr G 8 0 0)]) (by decide) rfl (Nat.le_of_ble_eq_true rfl) rfl ?_
  refine ev_iconst dX12_stands_0 ?_
  refine ev_istore_n dX12_stands_1 rfl (by decide) rfl ?_
  exact ev_sub [1, 0] rfl h
set_option maxRecDepth 20000 in
set_option maxHeartbeats 4000000 in
theorem bX12_stands_2 {G : GT} {K : List Value → Mem → Prop} {X : String → Mem → Prop} {M : Mem} {v1 : Int} (h : I32 v1 ∧ I32 (M 8 0 1 160) ∧ ((¬ v1 < (M 8 0 1 160) → Call G 0 0 zX12_remembers [rr G 8 0 0] M (kV (fun M8 => K [iv 1] M8)) noX) ∧ (v1 < (M 8 0 1 160) → Call G 3 0 zX12_isSound [rr G 8 0 0, iv v1] M (kI (fun x14 M12 => I32 x14 ∧ ((¬ x14 = 0 → eX12_stands G K X 2 [(0, rr G 8 0 0), (1, iv (v1 + 1))] [] M12) ∧ (x14 = 0 → Call G 0 0 zX12_copies [rr G 8 0 0, rr G 8 0 3, rr G 8 0 1] M12 (kV (fun M22 => K [iv 0] M22)) noX)))) noX))) : eX12_stands G K X 2 [(0, rr G 8 0 0), (1, iv v1)] [] M := by
  show Ex G zX12_stands 4 0 K X 0 2 [(0, rr G 8 0 0), (1, iv v1)] [] M
  refine ev_iload_n (j := 1) dX12_stands_2 rfl rfl ?_
  refine ev_aload_n (j := 0) dX12_stands_3 rfl rfl ?_
  refine ev_get frX12_7 dX12_stands_4 dm8_0 en8_0 rfl ?_
  refine ev_sipush dX12_stands_7 (by decide) ?_
  refine ev_iald dX12_stands_10 dm8_1 ar8_1 (by decide) (by decide) (by decide) ?_
  obtain ⟨s1, s2, h3⟩ := h
  obtain ⟨h4, h5⟩ := h3
  refine ev_icmp_ge 42 dX12_stands_11 (by decide) s1 s2 (fun c6 => ?_) (fun c6 => ?_)
  · have h7 := h4 c6
    refine ev_aload_n (j := 0) dX12_stands_42 rfl rfl ?_
    refine ev_callVV (As := []) (st := []) mfX12_remembers mlX12_102 dX12_stands_43 rfl dm8_0 en8_0 rfl rfl rfl (by decide) (by decide) (by decide) (Nat.le_of_ble_eq_true rfl) (fun _ _ z => z.elim) h7 (fun M8 h9 => ?_)
    refine ev_iconst dX12_stands_46 ?_
    exact ev_zret dX12_stands_47 (by decide) rfl (by decide) h9
  · have h11 := h5 c6
    refine ev_aload_n (j := 0) dX12_stands_14 rfl rfl ?_
    refine ev_iload_n (j := 1) dX12_stands_15 rfl rfl ?_
    refine ev_callVI (As := [iv v1]) (st := []) mfX12_isSound mlX12_98 dX12_stands_16 rfl dm8_0 en8_0 rfl rfl rfl (by decide) (by decide) (by decide) (Nat.le_of_ble_eq_true rfl) (fun _ _ z => z.elim) h11 (fun x14 M12 h13 => ?_)
    obtain ⟨s15, h16⟩ := h13
    obtain ⟨h17, h18⟩ := h16
    refine ev_if_ne 36 dX12_stands_19 (by decide) s15 (fun c19 => ?_) (fun c19 => ?_)
    · have h20 := h17 c19
      refine ev_iinc (j := 1) dX12_stands_36 rfl (by decide) rfl ?_
      refine ev_goto 2 dX12_stands_39 (by decide) ?_
      exact ev_sub [1, 0] rfl h20
    · have h21 := h18 c19
      refine ev_aload_n (j := 0) dX12_stands_22 rfl rfl ?_
      refine ev_aload_n (j := 0) dX12_stands_23 rfl rfl ?_
      refine ev_get frX12_16 dX12_stands_24 dm8_0 en8_0 rfl ?_
      refine ev_aload_n (j := 0) dX12_stands_27 rfl rfl ?_
      refine ev_get frX12_7 dX12_stands_28 dm8_0 en8_0 rfl ?_
      refine ev_callVV (As := [rr G 8 0 3, rr G 8 0 1]) (st := []) mfX12_copies mlX12_94 dX12_stands_31 rfl dm8_0 en8_0 rfl rfl rfl (by decide) (by decide) (by decide) (Nat.le_of_ble_eq_true rfl) (fun _ _ z => z.elim) h21 (fun M22 h23 => ?_)
      refine ev_iconst dX12_stands_34 ?_
      exact ev_zret dX12_stands_35 (by decide) rfl (by decide) h23
def eX12_startLate (G : GT) (K : List Value → Mem → Prop) (X : String → Mem → Prop) (pc : Nat) (lv : List (Nat × Value)) (st : List Value) (M : Mem) : Prop := Ex G zX12_startLate 3 0 K X 0 pc lv st M
set_option maxRecDepth 20000 in
set_option maxHeartbeats 4000000 in
theorem bX12_startLate {G : GT} {K : List Value → Mem → Prop} {X : String → Mem → Prop} {M : Mem} {v1 v2 : Int} (h : Call G 1 0 zX12_isTrip [rr G 8 0 0, iv v1] M (kI (fun x3 M1 => I32 x3 ∧ ((x3 = 0 → K [iv 0] (wr M1 8 0 0 7 1)) ∧ (¬ x3 = 0 → Call G 2 0 zX12_isInside [rr G 8 0 0, iv v1, iv v2] M1 (kI (fun x13 M11 => I32 x13 ∧ ((x13 = 0 → K [iv 0] (wr M11 8 0 0 7 2)) ∧ (¬ x13 = 0 → Call G 1 0 zX12_plannedAt [rr G 8 0 0, iv v1, iv v2] M11 (kI (fun x23 M21 => I32 x23 ∧ ((1439 < x23 → K [iv 0] (wr M21 8 0 0 7 2)) ∧ (¬ 1439 < x23 → Call G 1 0 zX12_begins [rr G 8 0 0] (wr M21 8 0 0 7 0) (kV (fun M31 => Call G 0 0 zX12_departs [rr G 8 0 0, iv v1] M31 (kI (fun x36 M34 => Call G 1 0 zX12_plannedAt [rr G 8 0 0, iv v1, iv v2] M34 (kI (fun x39 M37 => Call G 2 0 zX12_leaves [rr G 8 0 0, iv v1, iv 1] M37 (kV (fun M40 => 0 ≤ 40 + (4 * v1) ∧ 40 + (4 * v1) < 500 ∧ 0 ≤ (40 + (4 * v1)) + 2 ∧ (40 + (4 * v1)) + 2 < 500 ∧ ∀ M49 : Mem, M49 = wr (wr M40 8 0 1 (40 + (4 * v1)) v2) 8 0 1 ((40 + (4 * v1)) + 2) x39 → Call G 0 0 zX12_remembers [rr G 8 0 0] M49 (kV (fun M52 => K [iv (x39 - x36)] M52)) noX)) noX)) noX)) noX)) noX)))) noX)))) noX)))) noX) : Call G 3 0 zX12_startLate [rr G 8 0 0, iv v1, iv v2] M K X := by
  refine call_intro (lv := [(0, rr G 8 0 0), (1, iv v1), (2, iv v2)]) (by decide) rfl (Nat.le_of_ble_eq_true rfl) rfl ?_
  refine ev_aload_n (j := 0) dX12_startLate_0 rfl rfl ?_
  refine ev_aload_n (j := 0) dX12_startLate_1 rfl rfl ?_
  refine ev_iload_n (j := 1) dX12_startLate_2 rfl rfl ?_
  refine ev_callVI (As := [iv v1]) (st := [rr G 8 0 0]) mfX12_isTrip mlX12_169 dX12_startLate_3 rfl dm8_0 en8_0 rfl rfl rfl (by decide) (by decide) (by decide) (Nat.le_of_ble_eq_true rfl) (fun _ _ z => z.elim) h (fun x3 M1 h2 => ?_)
  obtain ⟨s4, h5⟩ := h2
  obtain ⟨h6, h7⟩ := h5
  refine ev_if_eq 38 dX12_startLate_6 (by decide) s4 (fun c8 => ?_) (fun c8 => ?_)
  · have h9 := h6 c8
    refine ev_iconst dX12_startLate_38 ?_
    refine ev_put fwX12_84 dX12_startLate_39 dm8_0 en8_0 rfl rfl rfl (Nat.le_of_ble_eq_true rfl) ?_
    refine ev_aload_n (j := 0) dX12_startLate_42 rfl rfl ?_
    refine ev_get frX12_84 dX12_startLate_43 dm8_0 en8_0 rfl ?_
    refine ev_topI (b := 1) rfl ?_
    refine ev_if_le 51 dX12_startLate_46 (by decide) ⟨by decide, by decide⟩ (fun c9 => absurd c9 (by decide)) (fun _ => ?_)
    refine ev_iconst dX12_startLate_49 ?_
    exact ev_iret dX12_startLate_50 (by decide) rfl h9
  · have h10 := h7 c8
    refine ev_aload_n (j := 0) dX12_startLate_9 rfl rfl ?_
    refine ev_iload_n (j := 1) dX12_startLate_10 rfl rfl ?_
    refine ev_iload_n (j := 2) dX12_startLate_11 rfl rfl ?_
    refine ev_callVI (As := [iv v1, iv v2]) (st := [rr G 8 0 0]) mfX12_isInside mlX12_295 dX12_startLate_12 rfl dm8_0 en8_0 rfl rfl rfl (by decide) (by decide) (by decide) (Nat.le_of_ble_eq_true rfl) (fun _ _ z => z.elim) h10 (fun x13 M11 h12 => ?_)
    obtain ⟨s14, h15⟩ := h12
    obtain ⟨h16, h17⟩ := h15
    refine ev_if_eq 34 dX12_startLate_15 (by decide) s14 (fun c18 => ?_) (fun c18 => ?_)
    · have h19 := h16 c18
      refine ev_iconst dX12_startLate_34 ?_
      refine ev_goto 39 dX12_startLate_35 (by decide) ?_
      refine ev_put fwX12_84 dX12_startLate_39 dm8_0 en8_0 rfl rfl rfl (Nat.le_of_ble_eq_true rfl) ?_
      refine ev_aload_n (j := 0) dX12_startLate_42 rfl rfl ?_
      refine ev_get frX12_84 dX12_startLate_43 dm8_0 en8_0 rfl ?_
      refine ev_topI (b := 2) rfl ?_
      refine ev_if_le 51 dX12_startLate_46 (by decide) ⟨by decide, by decide⟩ (fun c9 => absurd c9 (by decide)) (fun _ => ?_)
      refine ev_iconst dX12_startLate_49 ?_
      exact ev_iret dX12_startLate_50 (by decide) rfl h19
    · have h20 := h17 c18
      refine ev_aload_n (j := 0) dX12_startLate_18 rfl rfl ?_
      refine ev_iload_n (j := 1) dX12_startLate_19 rfl rfl ?_
      refine ev_iload_n (j := 2) dX12_startLate_20 rfl rfl ?_
      refine ev_callVI (As := [iv v1, iv v2]) (st := [rr G 8 0 0]) mfX12_plannedAt mlX12_185 dX12_startLate_21 rfl dm8_0 en8_0 rfl rfl rfl (by decide) (by decide) (by decide) (Nat.le_of_ble_eq_true rfl) (fun _ _ z => z.elim) h20 (fun x23 M21 h22 => ?_)
      refine ev_sipush dX12_startLate_24 (by decide) ?_
      obtain ⟨s24, h25⟩ := h22
      obtain ⟨h26, h27⟩ := h25
      refine ev_icmp_gt 34 dX12_startLate_27 (by decide) s24 ⟨by decide, by decide⟩ (fun c28 => ?_) (fun c28 => ?_)
      · have h29 := h26 c28
        refine ev_iconst dX12_startLate_34 ?_
        refine ev_goto 39 dX12_startLate_35 (by decide) ?_
        refine ev_put fwX12_84 dX12_startLate_39 dm8_0 en8_0 rfl rfl rfl (Nat.le_of_ble_eq_true rfl) ?_
        refine ev_aload_n (j := 0) dX12_startLate_42 rfl rfl ?_
        refine ev_get frX12_84 dX12_startLate_43 dm8_0 en8_0 rfl ?_
        refine ev_topI (b := 2) rfl ?_
        refine ev_if_le 51 dX12_startLate_46 (by decide) ⟨by decide, by decide⟩ (fun c9 => absurd c9 (by decide)) (fun _ => ?_)
        refine ev_iconst dX12_startLate_49 ?_
        exact ev_iret dX12_startLate_50 (by decide) rfl h29
      · have h30 := h27 c28
        refine ev_iconst dX12_startLate_30 ?_
        refine ev_goto 39 dX12_startLate_31 (by decide) ?_
        refine ev_put fwX12_84 dX12_startLate_39 dm8_0 en8_0 rfl rfl rfl (Nat.le_of_ble_eq_true rfl) ?_
        refine ev_aload_n (j := 0) dX12_startLate_42 rfl rfl ?_
        refine ev_get frX12_84 dX12_startLate_43 dm8_0 en8_0 rfl ?_
        refine ev_topI (b := 0) rfl ?_
        refine ev_if_le 51 dX12_startLate_46 (by decide) ⟨by decide, by decide⟩ (fun _ => ?_) (fun c9 => absurd c9 (by decide))
        refine ev_aload_n (j := 0) dX12_startLate_51 rfl rfl ?_
        refine ev_callVV (As := []) (st := []) mfX12_begins mlX12_139 dX12_startLate_52 rfl dm8_0 en8_0 rfl rfl rfl (by decide) (by decide) (by decide) (Nat.le_of_ble_eq_true rfl) (fun _ _ z => z.elim) h30 (fun M31 h32 => ?_)
        refine ev_aload_n (j := 0) dX12_startLate_55 rfl rfl ?_
        refine ev_iload_n (j := 1) dX12_startLate_56 rfl rfl ?_
        refine ev_callVI (As := [iv v1]) (st := []) mfX12_departs mlX12_109 dX12_startLate_57 rfl dm8_0 en8_0 rfl rfl rfl (by decide) (by decide) (by decide) (Nat.le_of_ble_eq_true rfl) (fun _ _ z => z.elim) h32 (fun x36 M34 h35 => ?_)
        refine ev_istore_n dX12_startLate_60 rfl (by decide) rfl ?_
        refine ev_aload_n (j := 1) dX12_startLate_61 rfl rfl ?_
        refine ev_iload_n (j := 2) dX12_startLate_62 rfl rfl ?_
        refine ev_iload_n (j := 3) dX12_startLate_63 rfl rfl ?_
        refine ev_callVI (As := [iv v1, iv v2]) (st := []) mfX12_plannedAt mlX12_185 dX12_startLate_64 rfl dm8_0 en8_0 rfl rfl rfl (by decide) (by decide) (by decide) (Nat.le_of_ble_eq_true rfl) (fun _ _ z => z.elim) h35 (fun x39 M37 h38 => ?_)
        refine ev_istore dX12_startLate_67 (by decide) rfl ?_
        refine ev_aload_n (j := 2) dX12_startLate_69 rfl rfl ?_
        refine ev_iload_n (j := 3) dX12_startLate_70 rfl rfl ?_
        refine ev_iconst dX12_startLate_71 ?_
        refine ev_callVV (As := [iv v1, iv 1]) (st := []) mfX12_leaves mlX12_172 dX12_startLate_72 rfl dm8_0 en8_0 rfl rfl rfl (by decide) (by decide) (by decide) (Nat.le_of_ble_eq_true rfl) (fun _ _ z => z.elim) h38 (fun M40 h41 => ?_)
        refine ev_aload_n (j := 2) dX12_startLate_75 rfl rfl ?_
        refine ev_get frX12_7 dX12_startLate_76 dm8_0 en8_0 rfl ?_
        refine ev_bipush dX12_startLate_79 (by decide) ?_
        refine ev_iconst dX12_startLate_81 ?_
        refine ev_iload_n (j := 3) dX12_startLate_82 rfl rfl ?_
        refine ev_imul dX12_startLate_83 ?_
        refine ev_iadd dX12_startLate_84 ?_
        refine ev_iload_n (j := 4) dX12_startLate_85 rfl rfl ?_
        obtain ⟨s43, s44, h45⟩ := h41
        refine ev_iast dX12_startLate_86 dm8_1 ar8_1 (by decide) s43 s44 ?_
        refine ev_aload_n (j := 2) dX12_startLate_87 rfl rfl ?_
        refine ev_get frX12_7 dX12_startLate_88 dm8_0 en8_0 rfl ?_
        refine ev_bipush dX12_startLate_91 (by decide) ?_
        refine ev_iconst dX12_startLate_93 ?_
        refine ev_iload_n (j := 3) dX12_startLate_94 rfl rfl ?_
        refine ev_imul dX12_startLate_95 ?_
        refine ev_iadd dX12_startLate_96 ?_
        refine ev_iconst dX12_startLate_97 ?_
        refine ev_iadd dX12_startLate_98 ?_
        refine ev_iload (j := 0) dX12_startLate_99 rfl ?_
        obtain ⟨s46, s47, h48⟩ := h45
        refine ev_iast dX12_startLate_101 dm8_1 ar8_1 (by decide) s46 s47 ?_
        obtain ⟨M49, e51⟩ : ∃ M49 : Mem, M49 = wr (wr M40 8 0 1 (40 + (4 * v1)) v2) 8 0 1 ((40 + (4 * v1)) + 2) x39 := ⟨_, rfl⟩
        have h50 := h48 _ e51
        refine ev_mem e51 ?_
        refine ev_aload_n (j := 2) dX12_startLate_102 rfl rfl ?_
        refine ev_callVV (As := []) (st := []) mfX12_remembers mlX12_102 dX12_startLate_103 rfl dm8_0 en8_0 rfl rfl rfl (by decide) (by decide) (by decide) (Nat.le_of_ble_eq_true rfl) (fun _ _ z => z.elim) h50 (fun M52 h53 => ?_)
        refine ev_iload (j := 0) dX12_startLate_106 rfl ?_
        refine ev_iload_n (j := 1) dX12_startLate_108 rfl rfl ?_
        refine ev_isub dX12_startLate_109 ?_
        exact ev_iret dX12_startLate_110 (by decide) rfl h53
def eX12_startsTrip (G : GT) (K : List Value → Mem → Prop) (X : String → Mem → Prop) (pc : Nat) (lv : List (Nat × Value)) (st : List Value) (M : Mem) : Prop := Ex G zX12_startsTrip 1 0 K X 0 pc lv st M
set_option maxRecDepth 20000 in
set_option maxHeartbeats 4000000 in
theorem bX12_startsTrip {G : GT} {K : List Value → Mem → Prop} {X : String → Mem → Prop} {M : Mem} {v1 v2 v3 : Int} (h : Call G 0 0 zX12_dutyAt [rr G 8 0 0, iv v1, iv v2] M (kI (fun x3 M1 => 0 ≤ v1 ∧ v1 < 10 ∧ Call G 0 0 zX12_first [rr G 8 0 0, iv x3] (wr M1 8 0 8 v1 v2) (kI (fun x9 M7 => Call G 0 0 zX12_departs [rr G 8 0 0, iv x3] (wr M7 8 0 9 v1 x9) (kI (fun x12 M10 => I32 v3 ∧ I32 x12 ∧ ((¬ x12 < v3 → Call G 0 0 zX12_departs [rr G 8 0 0, iv x3] M10 (kI (fun x22 M20 => K [] (wr M20 8 0 10 v1 x22))) noX) ∧ (x12 < v3 → K [] (wr M10 8 0 10 v1 v3))))) noX)) noX)) noX) : Call G 1 0 zX12_startsTrip [rr G 8 0 0, iv v1, iv v2, iv v3] M K X := by
  refine call_intro (lv := [(0, rr G 8 0 0), (1, iv v1), (2, iv v2), (3, iv v3)]) (by decide) rfl (Nat.le_of_ble_eq_true rfl) rfl ?_
  refine ev_aload_n (j := 0) dX12_startsTrip_0 rfl rfl ?_
  refine ev_iload_n (j := 1) dX12_startsTrip_1 rfl rfl ?_
  refine ev_iload_n (j := 2) dX12_startsTrip_2 rfl rfl ?_
  refine ev_callVI (As := [iv v1, iv v2]) (st := []) mfX12_dutyAt mlX12_126 dX12_startsTrip_3 rfl dm8_0 en8_0 rfl rfl rfl (by decide) (by decide) (by decide) (Nat.le_of_ble_eq_true rfl) (fun _ _ z => z.elim) h (fun x3 M1 h2 => ?_)
  refine ev_istore dX12_startsTrip_6 (by decide) rfl ?_
  refine ev_aload_n (j := 1) dX12_startsTrip_8 rfl rfl ?_
  refine ev_get frX12_31 dX12_startsTrip_9 dm8_0 en8_0 rfl ?_
  refine ev_iload_n (j := 2) dX12_startsTrip_12 rfl rfl ?_
  refine ev_iload_n (j := 3) dX12_startsTrip_13 rfl rfl ?_
  obtain ⟨s4, s5, h6⟩ := h2
  refine ev_iast dX12_startsTrip_14 dm8_8 ar8_8 (by decide) s4 s5 ?_
  refine ev_aload_n (j := 1) dX12_startsTrip_15 rfl rfl ?_
  refine ev_get frX12_34 dX12_startsTrip_16 dm8_0 en8_0 rfl ?_
  refine ev_iload_n (j := 2) dX12_startsTrip_19 rfl rfl ?_
  refine ev_aload_n (j := 1) dX12_startsTrip_20 rfl rfl ?_
  refine ev_iload (j := 0) dX12_startsTrip_21 rfl ?_
  refine ev_callVI (As := [iv x3]) (st := [iv v1, rr G 8 0 9]) mfX12_first mlX12_113 dX12_startsTrip_23 rfl dm8_0 en8_0 rfl rfl rfl (by decide) (by decide) (by decide) (Nat.le_of_ble_eq_true rfl) (fun _ _ z => z.elim) h6 (fun x9 M7 h8 => ?_)
  refine ev_iast dX12_startsTrip_26 dm8_9 ar8_9 (by decide) s4 s5 ?_
  refine ev_aload_n (j := 1) dX12_startsTrip_27 rfl rfl ?_
  refine ev_get frX12_37 dX12_startsTrip_28 dm8_0 en8_0 rfl ?_
  refine ev_iload_n (j := 2) dX12_startsTrip_31 rfl rfl ?_
  refine ev_iload_n (j := 4) dX12_startsTrip_32 rfl rfl ?_
  refine ev_aload_n (j := 1) dX12_startsTrip_33 rfl rfl ?_
  refine ev_iload (j := 0) dX12_startsTrip_34 rfl ?_
  refine ev_callVI (As := [iv x3]) (st := [iv v3, iv v1, rr G 8 0 10]) mfX12_departs mlX12_109 dX12_startsTrip_36 rfl dm8_0 en8_0 rfl rfl rfl (by decide) (by decide) (by decide) (Nat.le_of_ble_eq_true rfl) (fun _ _ z => z.elim) h8 (fun x12 M10 h11 => ?_)
  obtain ⟨s13, s14, h15⟩ := h11
  obtain ⟨h16, h17⟩ := h15
  refine ev_icmp_le 46 dX12_startsTrip_39 (by decide) s13 s14 (fun c18 => ?_) (fun c18 => ?_)
  · have h19 := h16 c18
    refine ev_aload_n (j := 1) dX12_startsTrip_46 rfl rfl ?_
    refine ev_iload (j := 0) dX12_startsTrip_47 rfl ?_
    refine ev_callVI (As := [iv x3]) (st := [iv v1, rr G 8 0 10]) mfX12_departs mlX12_109 dX12_startsTrip_49 rfl dm8_0 en8_0 rfl rfl rfl (by decide) (by decide) (by decide) (Nat.le_of_ble_eq_true rfl) (fun _ _ z => z.elim) h19 (fun x22 M20 h21 => ?_)
    refine ev_iast dX12_startsTrip_52 dm8_10 ar8_10 (by decide) s4 s5 ?_
    exact ev_vret dX12_startsTrip_53 (by decide) rfl h21
  · have h23 := h17 c18
    refine ev_iload_n (j := 4) dX12_startsTrip_42 rfl rfl ?_
    refine ev_goto 52 dX12_startsTrip_43 (by decide) ?_
    refine ev_iast dX12_startsTrip_52 dm8_10 ar8_10 (by decide) s4 s5 ?_
    exact ev_vret dX12_startsTrip_53 (by decide) rfl h23
def eX12_sums (G : GT) (K : List Value → Mem → Prop) (X : String → Mem → Prop) (pc : Nat) (lv : List (Nat × Value)) (st : List Value) (M : Mem) : Prop := Ex G zX12_sums 5 0 K X 0 pc lv st M
set_option maxRecDepth 20000 in
set_option maxHeartbeats 4000000 in
theorem bX12_sums {G : GT} {K : List Value → Mem → Prop} {X : String → Mem → Prop} {M : Mem} (h : Call G 4 0 zX12_runs [rr G 8 0 0] M (kV (fun M1 => eX12_sums G K X 21 [(0, rr G 8 0 0), (1, iv 0)] [] (wr (wr (wr M1 8 0 0 21 0) 8 0 0 22 0) 8 0 0 23 0))) noX) : Call G 5 0 zX12_sums [rr G 8 0 0] M K X := by
  refine call_intro (lv := [(0, rr G 8 0 0)]) (by decide) rfl (Nat.le_of_ble_eq_true rfl) rfl ?_
  refine ev_aload_n (j := 0) dX12_sums_0 rfl rfl ?_
  refine ev_callVV (As := []) (st := []) mfX12_runs mlX12_274 dX12_sums_1 rfl dm8_0 en8_0 rfl rfl rfl (by decide) (by decide) (by decide) (Nat.le_of_ble_eq_true rfl) (fun _ _ z => z.elim) h (fun M1 h2 => ?_)
  refine ev_aload_n (j := 0) dX12_sums_4 rfl rfl ?_
  refine ev_iconst dX12_sums_5 ?_
  refine ev_put fwX12_283 dX12_sums_6 dm8_0 en8_0 rfl rfl rfl (Nat.le_of_ble_eq_true rfl) ?_
  refine ev_aload_n (j := 0) dX12_sums_9 rfl rfl ?_
  refine ev_iconst dX12_sums_10 ?_
  refine ev_put fwX12_286 dX12_sums_11 dm8_0 en8_0 rfl rfl rfl (Nat.le_of_ble_eq_true rfl) ?_
  refine ev_aload_n (j := 0) dX12_sums_14 rfl rfl ?_
  refine ev_iconst dX12_sums_15 ?_
  refine ev_put fwX12_289 dX12_sums_16 dm8_0 en8_0 rfl rfl rfl (Nat.le_of_ble_eq_true rfl) ?_
  refine ev_iconst dX12_sums_19 ?_
  refine ev_istore_n dX12_sums_20 rfl (by decide) rfl ?_
  exact ev_sub [1, 0] rfl h2
set_option maxRecDepth 20000 in
set_option maxHeartbeats 4000000 in
theorem bX12_sums_21 {G : GT} {K : List Value → Mem → Prop} {X : String → Mem → Prop} {M : Mem} {v1 : Int} (h : I32 v1 ∧ I32 (M 8 0 1 37) ∧ ((¬ v1 < (M 8 0 1 37) → K [] M) ∧ (v1 < (M 8 0 1 37) → Call G 1 0 zX12_hasArrived [rr G 8 0 0, iv v1] M (kI (fun x11 M9 => I32 x11 ∧ ((x11 = 0 → eX12_sums G K X 21 [(0, rr G 8 0 0), (1, iv (v1 + 1))] [] M9) ∧ (¬ x11 = 0 → I32 (M9 8 0 0 21) ∧ (((M9 8 0 0 21) = 0 → Call G 2 0 zX12_delayOf [rr G 8 0 0, iv v1] M9 (kI (fun x27 M25 => Call G 2 0 zX12_delayOf [rr G 8 0 0, iv v1] (wr (wr M25 8 0 0 23 x27) 8 0 0 21 ((M25 8 0 0 21) + 1)) (kI (fun x30 M28 => eX12_sums G K X 21 [(0, rr G 8 0 0), (1, iv (v1 + 1))] [] (wr M28 8 0 0 22 ((M25 8 0 0 22) + x30)))) noX)) noX) ∧ (¬ (M9 8 0 0 21) = 0 → Call G 2 0 zX12_delayOf [rr G 8 0 0, iv v1] M9 (kI (fun x34 M32 => I32 x34 ∧ I32 (M32 8 0 0 23) ∧ ((¬ (M32 8 0 0 23) < x34 → ∀ M42 : Mem, M42 = wr (wr M32 8 0 0 23 (M32 8 0 0 23)) 8 0 0 21 ((M32 8 0 0 21) + 1) → Call G 2 0 zX12_delayOf [rr G 8 0 0, iv v1] M42 (kI (fun x47 M45 => eX12_sums G K X 21 [(0, rr G 8 0 0), (1, iv (v1 + 1))] [] (wr M45 8 0 0 22 ((M42 8 0 0 22) + x47)))) noX) ∧ ((M32 8 0 0 23) < x34 → Call G 2 0 zX12_delayOf [rr G 8 0 0, iv v1] M32 (kI (fun x51 M49 => Call G 2 0 zX12_delayOf [rr G 8 0 0, iv v1] (wr (wr M49 8 0 0 23 x51) 8 0 0 21 ((M49 8 0 0 21) + 1)) (kI (fun x54 M52 => eX12_sums G K X 21 [(0, rr G 8 0 0), (1, iv (v1 + 1))] [] (wr M52 8 0 0 22 ((M49 8 0 0 22) + x54)))) noX)) noX)))) noX)))))) noX))) : eX12_sums G K X 21 [(0, rr G 8 0 0), (1, iv v1)] [] M := by
  show Ex G zX12_sums 5 0 K X 0 21 [(0, rr G 8 0 0), (1, iv v1)] [] M
  refine ev_iload_n (j := 1) dX12_sums_21 rfl rfl ?_
  refine ev_aload_n (j := 0) dX12_sums_22 rfl rfl ?_
  refine ev_get frX12_7 dX12_sums_23 dm8_0 en8_0 rfl ?_
  refine ev_bipush dX12_sums_26 (by decide) ?_
  refine ev_iald dX12_sums_28 dm8_1 ar8_1 (by decide) (by decide) (by decide) ?_
  obtain ⟨s1, s2, h3⟩ := h
  obtain ⟨h4, h5⟩ := h3
  refine ev_icmp_ge 105 dX12_sums_29 (by decide) s1 s2 (fun c6 => ?_) (fun c6 => ?_)
  · have h7 := h4 c6
    exact ev_vret dX12_sums_105 (by decide) rfl h7
  · have h8 := h5 c6
    refine ev_aload_n (j := 0) dX12_sums_32 rfl rfl ?_
    refine ev_iload_n (j := 1) dX12_sums_33 rfl rfl ?_
    refine ev_callVI (As := [iv v1]) (st := []) mfX12_hasArrived mlX12_277 dX12_sums_34 rfl dm8_0 en8_0 rfl rfl rfl (by decide) (by decide) (by decide) (Nat.le_of_ble_eq_true rfl) (fun _ _ z => z.elim) h8 (fun x11 M9 h10 => ?_)
    obtain ⟨s12, h13⟩ := h10
    obtain ⟨h14, h15⟩ := h13
    refine ev_if_eq 99 dX12_sums_37 (by decide) s12 (fun c16 => ?_) (fun c16 => ?_)
    · have h17 := h14 c16
      refine ev_iinc (j := 1) dX12_sums_99 rfl (by decide) rfl ?_
      refine ev_goto 21 dX12_sums_102 (by decide) ?_
      exact ev_sub [1, 0] rfl h17
    · have h18 := h15 c16
      refine ev_aload_n (j := 0) dX12_sums_40 rfl rfl ?_
      refine ev_aload_n (j := 0) dX12_sums_41 rfl rfl ?_
      refine ev_get frX12_283 dX12_sums_42 dm8_0 en8_0 rfl ?_
      obtain ⟨s19, h20⟩ := h18
      obtain ⟨h21, h22⟩ := h20
      refine ev_if_eq 60 dX12_sums_45 (by decide) s19 (fun c23 => ?_) (fun c23 => ?_)
      · have h24 := h21 c23
        refine ev_aload_n (j := 0) dX12_sums_60 rfl rfl ?_
        refine ev_iload_n (j := 1) dX12_sums_61 rfl rfl ?_
        refine ev_callVI (As := [iv v1]) (st := [rr G 8 0 0]) mfX12_delayOf mlX12_280 dX12_sums_62 rfl dm8_0 en8_0 rfl rfl rfl (by decide) (by decide) (by decide) (Nat.le_of_ble_eq_true rfl) (fun _ _ z => z.elim) h24 (fun x27 M25 h26 => ?_)
        refine ev_goto 72 dX12_sums_65 (by decide) ?_
        refine ev_put fwX12_289 dX12_sums_72 dm8_0 en8_0 rfl rfl rfl (Nat.le_of_ble_eq_true rfl) ?_
        refine ev_aload_n (j := 0) dX12_sums_75 rfl rfl ?_
        refine ev_dup dX12_sums_76 rfl ?_
        refine ev_get frX12_283 dX12_sums_77 dm8_0 en8_0 rfl ?_
        refine ev_topI (b := M25 8 0 0 21) rfl ?_
        refine ev_iconst dX12_sums_80 ?_
        refine ev_iadd dX12_sums_81 ?_
        refine ev_put fwX12_283 dX12_sums_82 dm8_0 en8_0 rfl rfl rfl (Nat.le_of_ble_eq_true rfl) ?_
        refine ev_aload_n (j := 0) dX12_sums_85 rfl rfl ?_
        refine ev_dup dX12_sums_86 rfl ?_
        refine ev_get frX12_286 dX12_sums_87 dm8_0 en8_0 rfl ?_
        refine ev_topI (b := M25 8 0 0 22) rfl ?_
        refine ev_aload_n (j := 0) dX12_sums_90 rfl rfl ?_
        refine ev_iload_n (j := 1) dX12_sums_91 rfl rfl ?_
        refine ev_callVI (As := [iv v1]) (st := [iv (M25 8 0 0 22), rr G 8 0 0]) mfX12_delayOf mlX12_280 dX12_sums_92 rfl dm8_0 en8_0 rfl rfl rfl (by decide) (by decide) (by decide) (Nat.le_of_ble_eq_true rfl) (fun _ _ z => z.elim) h26 (fun x30 M28 h29 => ?_)
        refine ev_iadd dX12_sums_95 ?_
        refine ev_put fwX12_286 dX12_sums_96 dm8_0 en8_0 rfl rfl rfl (Nat.le_of_ble_eq_true rfl) ?_
        refine ev_iinc (j := 1) dX12_sums_99 rfl (by decide) rfl ?_
        refine ev_goto 21 dX12_sums_102 (by decide) ?_
        exact ev_sub [1, 0] rfl h29
      · have h31 := h22 c23
        refine ev_aload_n (j := 0) dX12_sums_48 rfl rfl ?_
        refine ev_iload_n (j := 1) dX12_sums_49 rfl rfl ?_
        refine ev_callVI (As := [iv v1]) (st := [rr G 8 0 0]) mfX12_delayOf mlX12_280 dX12_sums_50 rfl dm8_0 en8_0 rfl rfl rfl (by decide) (by decide) (by decide) (Nat.le_of_ble_eq_true rfl) (fun _ _ z => z.elim) h31 (fun x34 M32 h33 => ?_)
        refine ev_aload_n (j := 0) dX12_sums_53 rfl rfl ?_
        refine ev_get frX12_289 dX12_sums_54 dm8_0 en8_0 rfl ?_
        obtain ⟨s35, s36, h37⟩ := h33
        obtain ⟨h38, h39⟩ := h37
        refine ev_icmp_le 68 dX12_sums_57 (by decide) s35 s36 (fun c40 => ?_) (fun c40 => ?_)
        · have h41 := h38 c40
          refine ev_aload_n (j := 0) dX12_sums_68 rfl rfl ?_
          refine ev_get frX12_289 dX12_sums_69 dm8_0 en8_0 rfl ?_
          refine ev_put fwX12_289 dX12_sums_72 dm8_0 en8_0 rfl rfl rfl (Nat.le_of_ble_eq_true rfl) ?_
          refine ev_aload_n (j := 0) dX12_sums_75 rfl rfl ?_
          refine ev_dup dX12_sums_76 rfl ?_
          refine ev_get frX12_283 dX12_sums_77 dm8_0 en8_0 rfl ?_
          refine ev_topI (b := M32 8 0 0 21) rfl ?_
          refine ev_iconst dX12_sums_80 ?_
          refine ev_iadd dX12_sums_81 ?_
          refine ev_put fwX12_283 dX12_sums_82 dm8_0 en8_0 rfl rfl rfl (Nat.le_of_ble_eq_true rfl) ?_
          obtain ⟨M42, e44⟩ : ∃ M42 : Mem, M42 = wr (wr M32 8 0 0 23 (M32 8 0 0 23)) 8 0 0 21 ((M32 8 0 0 21) + 1) := ⟨_, rfl⟩
          have h43 := h41 _ e44
          refine ev_mem e44 ?_
          refine ev_aload_n (j := 0) dX12_sums_85 rfl rfl ?_
          refine ev_dup dX12_sums_86 rfl ?_
          refine ev_get frX12_286 dX12_sums_87 dm8_0 en8_0 rfl ?_
          refine ev_aload_n (j := 0) dX12_sums_90 rfl rfl ?_
          refine ev_iload_n (j := 1) dX12_sums_91 rfl rfl ?_
          refine ev_callVI (As := [iv v1]) (st := [iv (M42 8 0 0 22), rr G 8 0 0]) mfX12_delayOf mlX12_280 dX12_sums_92 rfl dm8_0 en8_0 rfl rfl rfl (by decide) (by decide) (by decide) (Nat.le_of_ble_eq_true rfl) (fun _ _ z => z.elim) h43 (fun x47 M45 h46 => ?_)
          refine ev_iadd dX12_sums_95 ?_
          refine ev_put fwX12_286 dX12_sums_96 dm8_0 en8_0 rfl rfl rfl (Nat.le_of_ble_eq_true rfl) ?_
          refine ev_iinc (j := 1) dX12_sums_99 rfl (by decide) rfl ?_
          refine ev_goto 21 dX12_sums_102 (by decide) ?_
          exact ev_sub [1, 0] rfl h46
        · have h48 := h39 c40
          refine ev_aload_n (j := 0) dX12_sums_60 rfl rfl ?_
          refine ev_iload_n (j := 1) dX12_sums_61 rfl rfl ?_
          refine ev_callVI (As := [iv v1]) (st := [rr G 8 0 0]) mfX12_delayOf mlX12_280 dX12_sums_62 rfl dm8_0 en8_0 rfl rfl rfl (by decide) (by decide) (by decide) (Nat.le_of_ble_eq_true rfl) (fun _ _ z => z.elim) h48 (fun x51 M49 h50 => ?_)
          refine ev_goto 72 dX12_sums_65 (by decide) ?_
          refine ev_put fwX12_289 dX12_sums_72 dm8_0 en8_0 rfl rfl rfl (Nat.le_of_ble_eq_true rfl) ?_
          refine ev_aload_n (j := 0) dX12_sums_75 rfl rfl ?_
          refine ev_dup dX12_sums_76 rfl ?_
          refine ev_get frX12_283 dX12_sums_77 dm8_0 en8_0 rfl ?_
          refine ev_topI (b := M49 8 0 0 21) rfl ?_
          refine ev_iconst dX12_sums_80 ?_
          refine ev_iadd dX12_sums_81 ?_
          refine ev_put fwX12_283 dX12_sums_82 dm8_0 en8_0 rfl rfl rfl (Nat.le_of_ble_eq_true rfl) ?_
          refine ev_aload_n (j := 0) dX12_sums_85 rfl rfl ?_
          refine ev_dup dX12_sums_86 rfl ?_
          refine ev_get frX12_286 dX12_sums_87 dm8_0 en8_0 rfl ?_
          refine ev_topI (b := M49 8 0 0 22) rfl ?_
          refine ev_aload_n (j := 0) dX12_sums_90 rfl rfl ?_
          refine ev_iload_n (j := 1) dX12_sums_91 rfl rfl ?_
          refine ev_callVI (As := [iv v1]) (st := [iv (M49 8 0 0 22), rr G 8 0 0]) mfX12_delayOf mlX12_280 dX12_sums_92 rfl dm8_0 en8_0 rfl rfl rfl (by decide) (by decide) (by decide) (Nat.le_of_ble_eq_true rfl) (fun _ _ z => z.elim) h50 (fun x54 M52 h53 => ?_)
          refine ev_iadd dX12_sums_95 ?_
          refine ev_put fwX12_286 dX12_sums_96 dm8_0 en8_0 rfl rfl rfl (Nat.le_of_ble_eq_true rfl) ?_
          refine ev_iinc (j := 1) dX12_sums_99 rfl (by decide) rfl ?_
          refine ev_goto 21 dX12_sums_102 (by decide) ?_
          exact ev_sub [1, 0] rfl h53
def eX12_take (G : GT) (K : List Value → Mem → Prop) (X : String → Mem → Prop) (pc : Nat) (lv : List (Nat × Value)) (st : List Value) (M : Mem) : Prop := Ex G zX12_take 2 0 K X 0 pc lv st M
set_option maxRecDepth 20000 in
set_option maxHeartbeats 4000000 in
theorem bX12_take {G : GT} {K : List Value → Mem → Prop} {X : String → Mem → Prop} {M : Mem} {v1 : Int} (h : Call G 1 0 zX12_isVehicle [rr G 8 0 0, iv v1] M (kI (fun x3 M1 => I32 x3 ∧ ((x3 = 0 → K [iv 0] (wr M1 8 0 0 7 1)) ∧ (¬ x3 = 0 → 0 ≤ 171 + v1 ∧ 171 + v1 < 500 ∧ I32 (M1 8 0 1 (171 + v1)) ∧ ((¬ (M1 8 0 1 (171 + v1)) = 0 → Call G 1 0 zX12_begins [rr G 8 0 0] (wr M1 8 0 0 7 0) (kV (fun M20 => Call G 0 0 zX12_remembers [rr G 8 0 0] (wr M20 8 0 1 (171 + v1) ((M20 8 0 1 (171 + v1)) - 1)) (kV (fun M23 => Call G 0 0 zX12_dutyAt [rr G 8 0 0, iv v1, iv (M23 8 0 1 (171 + v1))] M23 (kI (fun x28 M26 => K [iv x28] M26)) noX)) noX)) noX) ∧ ((M1 8 0 1 (171 + v1)) = 0 → K [iv 0] (wr M1 8 0 0 7 2))))))) noX) : Call G 2 0 zX12_take [rr G 8 0 0, iv v1] M K X := by
  refine call_intro (lv := [(0, rr G 8 0 0), (1, iv v1)]) (by decide) rfl (Nat.le_of_ble_eq_true rfl) rfl ?_
  refine ev_aload_n (j := 0) dX12_take_0 rfl rfl ?_
  refine ev_aload_n (j := 0) dX12_take_1 rfl rfl ?_
  refine ev_iload_n (j := 1) dX12_take_2 rfl rfl ?_
  refine ev_callVI (As := [iv v1]) (st := [rr G 8 0 0]) mfX12_isVehicle mlX12_220 dX12_take_3 rfl dm8_0 en8_0 rfl rfl rfl (by decide) (by decide) (by decide) (Nat.le_of_ble_eq_true rfl) (fun _ _ z => z.elim) h (fun x3 M1 h2 => ?_)
  obtain ⟨s4, h5⟩ := h2
  obtain ⟨h6, h7⟩ := h5
  refine ev_if_eq 30 dX12_take_6 (by decide) s4 (fun c8 => ?_) (fun c8 => ?_)
  · have h9 := h6 c8
    refine ev_iconst dX12_take_30 ?_
    refine ev_put fwX12_84 dX12_take_31 dm8_0 en8_0 rfl rfl rfl (Nat.le_of_ble_eq_true rfl) ?_
    refine ev_aload_n (j := 0) dX12_take_34 rfl rfl ?_
    refine ev_get frX12_84 dX12_take_35 dm8_0 en8_0 rfl ?_
    refine ev_topI (b := 1) rfl ?_
    refine ev_if_le 43 dX12_take_38 (by decide) ⟨by decide, by decide⟩ (fun c9 => absurd c9 (by decide)) (fun _ => ?_)
    refine ev_iconst dX12_take_41 ?_
    exact ev_iret dX12_take_42 (by decide) rfl h9
  · have h10 := h7 c8
    refine ev_aload_n (j := 0) dX12_take_9 rfl rfl ?_
    refine ev_get frX12_7 dX12_take_10 dm8_0 en8_0 rfl ?_
    refine ev_sipush dX12_take_13 (by decide) ?_
    refine ev_iload_n (j := 1) dX12_take_16 rfl rfl ?_
    refine ev_iadd dX12_take_17 ?_
    obtain ⟨s11, s12, h13⟩ := h10
    refine ev_iald dX12_take_18 dm8_1 ar8_1 (by decide) s11 s12 ?_
    obtain ⟨s14, h15⟩ := h13
    obtain ⟨h16, h17⟩ := h15
    refine ev_if_ne 26 dX12_take_19 (by decide) s14 (fun c18 => ?_) (fun c18 => ?_)
    · have h19 := h16 c18
      refine ev_iconst dX12_take_26 ?_
      refine ev_goto 31 dX12_take_27 (by decide) ?_
      refine ev_put fwX12_84 dX12_take_31 dm8_0 en8_0 rfl rfl rfl (Nat.le_of_ble_eq_true rfl) ?_
      refine ev_aload_n (j := 0) dX12_take_34 rfl rfl ?_
      refine ev_get frX12_84 dX12_take_35 dm8_0 en8_0 rfl ?_
      refine ev_topI (b := 0) rfl ?_
      refine ev_if_le 43 dX12_take_38 (by decide) ⟨by decide, by decide⟩ (fun _ => ?_) (fun c9 => absurd c9 (by decide))
      refine ev_aload_n (j := 0) dX12_take_43 rfl rfl ?_
      refine ev_callVV (As := []) (st := []) mfX12_begins mlX12_139 dX12_take_44 rfl dm8_0 en8_0 rfl rfl rfl (by decide) (by decide) (by decide) (Nat.le_of_ble_eq_true rfl) (fun _ _ z => z.elim) h19 (fun M20 h21 => ?_)
      refine ev_aload_n (j := 0) dX12_take_47 rfl rfl ?_
      refine ev_get frX12_7 dX12_take_48 dm8_0 en8_0 rfl ?_
      refine ev_sipush dX12_take_51 (by decide) ?_
      refine ev_iload_n (j := 1) dX12_take_54 rfl rfl ?_
      refine ev_iadd dX12_take_55 ?_
      refine ev_dup2 dX12_take_56 rfl rfl ?_
      refine ev_iald dX12_take_57 dm8_1 ar8_1 (by decide) s11 s12 ?_
      refine ev_iconst dX12_take_58 ?_
      refine ev_isub dX12_take_59 ?_
      refine ev_iast dX12_take_60 dm8_1 ar8_1 (by decide) s11 s12 ?_
      refine ev_aload_n (j := 0) dX12_take_61 rfl rfl ?_
      refine ev_callVV (As := []) (st := []) mfX12_remembers mlX12_102 dX12_take_62 rfl dm8_0 en8_0 rfl rfl rfl (by decide) (by decide) (by decide) (Nat.le_of_ble_eq_true rfl) (fun _ _ z => z.elim) h21 (fun M23 h24 => ?_)
      refine ev_aload_n (j := 0) dX12_take_65 rfl rfl ?_
      refine ev_iload_n (j := 1) dX12_take_66 rfl rfl ?_
      refine ev_aload_n (j := 0) dX12_take_67 rfl rfl ?_
      refine ev_get frX12_7 dX12_take_68 dm8_0 en8_0 rfl ?_
      refine ev_sipush dX12_take_71 (by decide) ?_
      refine ev_iload_n (j := 1) dX12_take_74 rfl rfl ?_
      refine ev_iadd dX12_take_75 ?_
      refine ev_iald dX12_take_76 dm8_1 ar8_1 (by decide) s11 s12 ?_
      refine ev_callVI (As := [iv v1, iv (M23 8 0 1 (171 + v1))]) (st := []) mfX12_dutyAt mlX12_126 dX12_take_77 rfl dm8_0 en8_0 rfl rfl rfl (by decide) (by decide) (by decide) (Nat.le_of_ble_eq_true rfl) (fun _ _ z => z.elim) h24 (fun x28 M26 h27 => ?_)
      exact ev_iret dX12_take_80 (by decide) rfl h27
    · have h29 := h17 c18
      refine ev_iconst dX12_take_22 ?_
      refine ev_goto 31 dX12_take_23 (by decide) ?_
      refine ev_put fwX12_84 dX12_take_31 dm8_0 en8_0 rfl rfl rfl (Nat.le_of_ble_eq_true rfl) ?_
      refine ev_aload_n (j := 0) dX12_take_34 rfl rfl ?_
      refine ev_get frX12_84 dX12_take_35 dm8_0 en8_0 rfl ?_
      refine ev_topI (b := 2) rfl ?_
      refine ev_if_le 43 dX12_take_38 (by decide) ⟨by decide, by decide⟩ (fun c9 => absurd c9 (by decide)) (fun _ => ?_)
      refine ev_iconst dX12_take_41 ?_
      exact ev_iret dX12_take_42 (by decide) rfl h29
def eX12_thrown (G : GT) (K : List Value → Mem → Prop) (X : String → Mem → Prop) (pc : Nat) (lv : List (Nat × Value)) (st : List Value) (M : Mem) : Prop := Ex G zX12_thrown 0 0 K X 0 pc lv st M
set_option maxRecDepth 20000 in
set_option maxHeartbeats 4000000 in
theorem bX12_thrown {G : GT} {K : List Value → Mem → Prop} {X : String → Mem → Prop} {M : Mem} (h : K [iv (M 8 0 0 7)] M) : Call G 0 0 zX12_thrown [rr G 8 0 0] M K X := by
  refine call_intro (lv := [(0, rr G 8 0 0)]) (by decide) rfl (Nat.le_of_ble_eq_true rfl) rfl ?_
  refine ev_aload_n (j := 0) dX12_thrown_0 rfl rfl ?_
  refine ev_get frX12_84 dX12_thrown_1 dm8_0 en8_0 rfl ?_
  exact ev_iret dX12_thrown_4 (by decide) rfl h
def eX12_trip (G : GT) (K : List Value → Mem → Prop) (X : String → Mem → Prop) (pc : Nat) (lv : List (Nat × Value)) (st : List Value) (M : Mem) : Prop := Ex G zX12_trip 3 0 K X 0 pc lv st M
set_option maxRecDepth 20000 in
set_option maxHeartbeats 4000000 in
theorem bX12_trip {G : GT} {K : List Value → Mem → Prop} {X : String → Mem → Prop} {M : Mem} {v1 v2 : Int} (h : Call G 1 0 zX12_isTrip [rr G 8 0 0, iv v1] M (kI (fun x3 M1 => I32 x3 ∧ ((x3 = 0 → K [iv 0] (wr M1 8 0 0 7 1)) ∧ (¬ x3 = 0 → Call G 0 0 zX12_in [iv v2, iv 0, iv 6] M1 (kI (fun x13 M11 => I32 x13 ∧ ((x13 = 0 → K [iv 0] (wr M11 8 0 0 7 2)) ∧ (¬ x13 = 0 → Call G 2 0 zX12_tripTold [rr G 8 0 0, iv v1, iv v2] (wr M11 8 0 0 7 0) (kI (fun x23 M21 => K [iv x23] M21)) noX)))) noX)))) noX) : Call G 3 0 zX12_trip [rr G 8 0 0, iv v1, iv v2] M K X := by
  refine call_intro (lv := [(0, rr G 8 0 0), (1, iv v1), (2, iv v2)]) (by decide) rfl (Nat.le_of_ble_eq_true rfl) rfl ?_
  refine ev_aload_n (j := 0) dX12_trip_0 rfl rfl ?_
  refine ev_aload_n (j := 0) dX12_trip_1 rfl rfl ?_
  refine ev_iload_n (j := 1) dX12_trip_2 rfl rfl ?_
  refine ev_callVI (As := [iv v1]) (st := [rr G 8 0 0]) mfX12_isTrip mlX12_169 dX12_trip_3 rfl dm8_0 en8_0 rfl rfl rfl (by decide) (by decide) (by decide) (Nat.le_of_ble_eq_true rfl) (fun _ _ z => z.elim) h (fun x3 M1 h2 => ?_)
  obtain ⟨s4, h5⟩ := h2
  obtain ⟨h6, h7⟩ := h5
  refine ev_if_eq 27 dX12_trip_6 (by decide) s4 (fun c8 => ?_) (fun c8 => ?_)
  · have h9 := h6 c8
    refine ev_iconst dX12_trip_27 ?_
    refine ev_put fwX12_84 dX12_trip_28 dm8_0 en8_0 rfl rfl rfl (Nat.le_of_ble_eq_true rfl) ?_
    refine ev_aload_n (j := 0) dX12_trip_31 rfl rfl ?_
    refine ev_get frX12_84 dX12_trip_32 dm8_0 en8_0 rfl ?_
    refine ev_topI (b := 1) rfl ?_
    refine ev_if_le 42 dX12_trip_35 (by decide) ⟨by decide, by decide⟩ (fun c9 => absurd c9 (by decide)) (fun _ => ?_)
    refine ev_iconst dX12_trip_38 ?_
    refine ev_goto 48 dX12_trip_39 (by decide) ?_
    exact ev_iret dX12_trip_48 (by decide) rfl h9
  · have h10 := h7 c8
    refine ev_iload_n (j := 2) dX12_trip_9 rfl rfl ?_
    refine ev_iconst dX12_trip_10 ?_
    refine ev_bipush dX12_trip_11 (by decide) ?_
    refine ev_callSI (As := [iv v2, iv 0, iv 6]) (st := [rr G 8 0 0]) mfX12_in mlX12_87 dX12_trip_13 rfl rfl (by decide) (by decide) (by decide) (Nat.le_of_ble_eq_true rfl) (fun _ _ z => z.elim) h10 (fun x13 M11 h12 => ?_)
    obtain ⟨s14, h15⟩ := h12
    obtain ⟨h16, h17⟩ := h15
    refine ev_if_eq 23 dX12_trip_16 (by decide) s14 (fun c18 => ?_) (fun c18 => ?_)
    · have h19 := h16 c18
      refine ev_iconst dX12_trip_23 ?_
      refine ev_goto 28 dX12_trip_24 (by decide) ?_
      refine ev_put fwX12_84 dX12_trip_28 dm8_0 en8_0 rfl rfl rfl (Nat.le_of_ble_eq_true rfl) ?_
      refine ev_aload_n (j := 0) dX12_trip_31 rfl rfl ?_
      refine ev_get frX12_84 dX12_trip_32 dm8_0 en8_0 rfl ?_
      refine ev_topI (b := 2) rfl ?_
      refine ev_if_le 42 dX12_trip_35 (by decide) ⟨by decide, by decide⟩ (fun c9 => absurd c9 (by decide)) (fun _ => ?_)
      refine ev_iconst dX12_trip_38 ?_
      refine ev_goto 48 dX12_trip_39 (by decide) ?_
      exact ev_iret dX12_trip_48 (by decide) rfl h19
    · have h20 := h17 c18
      refine ev_iconst dX12_trip_19 ?_
      refine ev_goto 28 dX12_trip_20 (by decide) ?_
      refine ev_put fwX12_84 dX12_trip_28 dm8_0 en8_0 rfl rfl rfl (Nat.le_of_ble_eq_true rfl) ?_
      refine ev_aload_n (j := 0) dX12_trip_31 rfl rfl ?_
      refine ev_get frX12_84 dX12_trip_32 dm8_0 en8_0 rfl ?_
      refine ev_topI (b := 0) rfl ?_
      refine ev_if_le 42 dX12_trip_35 (by decide) ⟨by decide, by decide⟩ (fun _ => ?_) (fun c9 => absurd c9 (by decide))
      refine ev_aload_n (j := 0) dX12_trip_42 rfl rfl ?_
      refine ev_iload_n (j := 1) dX12_trip_43 rfl rfl ?_
      refine ev_iload_n (j := 2) dX12_trip_44 rfl rfl ?_
      refine ev_callVI (As := [iv v1, iv v2]) (st := []) mfX12_tripTold mlX12_179 dX12_trip_45 rfl dm8_0 en8_0 rfl rfl rfl (by decide) (by decide) (by decide) (Nat.le_of_ble_eq_true rfl) (fun _ _ z => z.elim) h20 (fun x23 M21 h22 => ?_)
      exact ev_iret dX12_trip_48 (by decide) rfl h22
def eX12_tripComes (G : GT) (K : List Value → Mem → Prop) (X : String → Mem → Prop) (pc : Nat) (lv : List (Nat × Value)) (st : List Value) (M : Mem) : Prop := Ex G zX12_tripComes 0 0 K X 0 pc lv st M
set_option maxRecDepth 20000 in
set_option maxHeartbeats 4000000 in
theorem bX12_tripComes {G : GT} {K : List Value → Mem → Prop} {X : String → Mem → Prop} {M : Mem} {v1 v2 v3 : Int} (h : 0 ≤ 40 + (4 * (M 8 0 1 37)) ∧ 40 + (4 * (M 8 0 1 37)) < 500 ∧ 0 ≤ (40 + (4 * (M 8 0 1 37))) + 1 ∧ (40 + (4 * (M 8 0 1 37))) + 1 < 500 ∧ ∀ M7 : Mem, M7 = wr (wr M 8 0 1 (40 + (4 * (M 8 0 1 37))) v1) 8 0 1 ((40 + (4 * (M 8 0 1 37))) + 1) v2 → 0 ≤ (40 + (4 * (M 8 0 1 37))) + 2 ∧ (40 + (4 * (M 8 0 1 37))) + 2 < 500 ∧ 0 ≤ (40 + (4 * (M 8 0 1 37))) + 3 ∧ (40 + (4 * (M 8 0 1 37))) + 3 < 500 ∧ ∀ M16 : Mem, M16 = wr (wr M7 8 0 1 ((40 + (4 * (M 8 0 1 37))) + 2) v3) 8 0 1 ((40 + (4 * (M 8 0 1 37))) + 3) 0 → K [] (wr M16 8 0 1 37 ((M16 8 0 1 37) + 1))) : Call G 0 0 zX12_tripComes [rr G 8 0 0, iv v1, iv v2, iv v3] M K X := by
  refine call_intro (lv := [(0, rr G 8 0 0), (1, iv v1), (2, iv v2), (3, iv v3)]) (by decide) rfl (Nat.le_of_ble_eq_true rfl) rfl ?_
  refine ev_bipush dX12_tripComes_0 (by decide) ?_
  refine ev_iconst dX12_tripComes_2 ?_
  refine ev_aload_n (j := 0) dX12_tripComes_3 rfl rfl ?_
  refine ev_get frX12_7 dX12_tripComes_4 dm8_0 en8_0 rfl ?_
  refine ev_bipush dX12_tripComes_7 (by decide) ?_
  refine ev_iald dX12_tripComes_9 dm8_1 ar8_1 (by decide) (by decide) (by decide) ?_
  refine ev_imul dX12_tripComes_10 ?_
  refine ev_iadd dX12_tripComes_11 ?_
  refine ev_istore dX12_tripComes_12 (by decide) rfl ?_
  refine ev_aload_n (j := 1) dX12_tripComes_14 rfl rfl ?_
  refine ev_get frX12_7 dX12_tripComes_15 dm8_0 en8_0 rfl ?_
  refine ev_iload (j := 0) dX12_tripComes_18 rfl ?_
  refine ev_iload_n (j := 2) dX12_tripComes_20 rfl rfl ?_
  obtain ⟨s1, s2, h3⟩ := h
  refine ev_iast dX12_tripComes_21 dm8_1 ar8_1 (by decide) s1 s2 ?_
  refine ev_aload_n (j := 1) dX12_tripComes_22 rfl rfl ?_
  refine ev_get frX12_7 dX12_tripComes_23 dm8_0 en8_0 rfl ?_
  refine ev_iload (j := 0) dX12_tripComes_26 rfl ?_
  refine ev_iconst dX12_tripComes_28 ?_
  refine ev_iadd dX12_tripComes_29 ?_
  refine ev_iload_n (j := 3) dX12_tripComes_30 rfl rfl ?_
  obtain ⟨s4, s5, h6⟩ := h3
  refine ev_iast dX12_tripComes_31 dm8_1 ar8_1 (by decide) s4 s5 ?_
  obtain ⟨M7, e9⟩ : ∃ M7 : Mem, M7 = wr (wr M 8 0 1 (40 + (4 * (M 8 0 1 37))) v1) 8 0 1 ((40 + (4 * (M 8 0 1 37))) + 1) v2 := ⟨_, rfl⟩
  have h8 := h6 _ e9
  refine ev_mem e9 ?_
  refine ev_aload_n (j := 1) dX12_tripComes_32 rfl rfl ?_
  refine ev_get frX12_7 dX12_tripComes_33 dm8_0 en8_0 rfl ?_
  refine ev_iload (j := 0) dX12_tripComes_36 rfl ?_
  refine ev_iconst dX12_tripComes_38 ?_
  refine ev_iadd dX12_tripComes_39 ?_
  refine ev_iload_n (j := 4) dX12_tripComes_40 rfl rfl ?_
  obtain ⟨s10, s11, h12⟩ := h8
  refine ev_iast dX12_tripComes_41 dm8_1 ar8_1 (by decide) s10 s11 ?_
  refine ev_aload_n (j := 1) dX12_tripComes_42 rfl rfl ?_
  refine ev_get frX12_7 dX12_tripComes_43 dm8_0 en8_0 rfl ?_
  refine ev_iload (j := 0) dX12_tripComes_46 rfl ?_
  refine ev_iconst dX12_tripComes_48 ?_
  refine ev_iadd dX12_tripComes_49 ?_
  refine ev_iconst dX12_tripComes_50 ?_
  obtain ⟨s13, s14, h15⟩ := h12
  refine ev_iast dX12_tripComes_51 dm8_1 ar8_1 (by decide) s13 s14 ?_
  obtain ⟨M16, e18⟩ : ∃ M16 : Mem, M16 = wr (wr M7 8 0 1 ((40 + (4 * (M 8 0 1 37))) + 2) v3) 8 0 1 ((40 + (4 * (M 8 0 1 37))) + 3) 0 := ⟨_, rfl⟩
  have h17 := h15 _ e18
  refine ev_mem e18 ?_
  refine ev_aload_n (j := 1) dX12_tripComes_52 rfl rfl ?_
  refine ev_get frX12_7 dX12_tripComes_53 dm8_0 en8_0 rfl ?_
  refine ev_bipush dX12_tripComes_56 (by decide) ?_
  refine ev_dup2 dX12_tripComes_58 rfl rfl ?_
  refine ev_iald dX12_tripComes_59 dm8_1 ar8_1 (by decide) (by decide) (by decide) ?_
  refine ev_iconst dX12_tripComes_60 ?_
  refine ev_iadd dX12_tripComes_61 ?_
  refine ev_iast dX12_tripComes_62 dm8_1 ar8_1 (by decide) (by decide) (by decide) ?_
  exact ev_vret dX12_tripComes_63 (by decide) rfl h17
def eX12_tripHere (G : GT) (K : List Value → Mem → Prop) (X : String → Mem → Prop) (pc : Nat) (lv : List (Nat × Value)) (st : List Value) (M : Mem) : Prop := Ex G zX12_tripHere 2 0 K X 0 pc lv st M
set_option maxRecDepth 20000 in
set_option maxHeartbeats 4000000 in
theorem bX12_tripHere {G : GT} {K : List Value → Mem → Prop} {X : String → Mem → Prop} {M : Mem} (h : Call G 1 0 zX12_number [rr G 8 0 0, iv 11] M (kI (fun x3 M1 => I32 x3 ∧ ((¬ x3 = 0 → 0 ≤ 3 * (M1 8 0 0 38) ∧ 3 * (M1 8 0 0 38) < 60 ∧ Call G 1 0 zX12_skips [rr G 8 0 0, iv 45] (wr M1 8 0 23 (3 * (M1 8 0 0 38)) (M1 8 0 0 35)) (kI (fun x15 M13 => I32 x15 ∧ ((x15 = 0 → K [iv 0] M13) ∧ (¬ x15 = 0 → Call G 1 0 zX12_number [rr G 8 0 0, iv 11] M13 (kI (fun x25 M23 => I32 x25 ∧ ((¬ x25 = 0 → 0 ≤ (3 * (M23 8 0 0 38)) + 1 ∧ (3 * (M23 8 0 0 38)) + 1 < 60 ∧ Call G 1 0 zX12_skips [rr G 8 0 0, iv 64] (wr M23 8 0 23 ((3 * (M23 8 0 0 38)) + 1) (M23 8 0 0 35)) (kI (fun x37 M35 => I32 x37 ∧ ((x37 = 0 → K [iv 0] M35) ∧ (¬ x37 = 0 → Call G 1 0 zX12_number [rr G 8 0 0, iv 1439] M35 (kI (fun x47 M45 => I32 x47 ∧ ((¬ x47 = 0 → 0 ≤ (3 * (M45 8 0 0 38)) + 2 ∧ (3 * (M45 8 0 0 38)) + 2 < 60 ∧ ∀ M57 : Mem, M57 = wr (wr M45 8 0 23 ((3 * (M45 8 0 0 38)) + 2) (M45 8 0 0 35)) 8 0 0 38 ((M45 8 0 0 38) + 1) → Call G 1 0 zX12_skips [rr G 8 0 0, iv 59] M57 (kI (fun x62 M60 => (x62 = 0 ∨ x62 = 1) ∧ K [iv x62] M60)) noX) ∧ (x47 = 0 → K [iv 0] M45)))) noX)))) noX) ∧ (x25 = 0 → K [iv 0] M23)))) noX)))) noX) ∧ (x3 = 0 → K [iv 0] M1)))) noX) : Call G 2 0 zX12_tripHere [rr G 8 0 0] M K X := by
  refine call_intro (lv := [(0, rr G 8 0 0)]) (by decide) rfl (Nat.le_of_ble_eq_true rfl) rfl ?_
  refine ev_aload_n (j := 0) dX12_tripHere_0 rfl rfl ?_
  refine ev_bipush dX12_tripHere_1 (by decide) ?_
  refine ev_callVI (As := [iv 11]) (st := []) mfX12_number mlX12_341 dX12_tripHere_3 rfl dm8_0 en8_0 rfl rfl rfl (by decide) (by decide) (by decide) (Nat.le_of_ble_eq_true rfl) (fun _ _ z => z.elim) h (fun x3 M1 h2 => ?_)
  obtain ⟨s4, h5⟩ := h2
  obtain ⟨h6, h7⟩ := h5
  refine ev_if_ne 11 dX12_tripHere_6 (by decide) s4 (fun c8 => ?_) (fun c8 => ?_)
  · have h9 := h6 c8
    refine ev_aload_n (j := 0) dX12_tripHere_11 rfl rfl ?_
    refine ev_get frX12_81 dX12_tripHere_12 dm8_0 en8_0 rfl ?_
    refine ev_iconst dX12_tripHere_15 ?_
    refine ev_aload_n (j := 0) dX12_tripHere_16 rfl rfl ?_
    refine ev_get frX12_343 dX12_tripHere_17 dm8_0 en8_0 rfl ?_
    refine ev_imul dX12_tripHere_20 ?_
    refine ev_aload_n (j := 0) dX12_tripHere_21 rfl rfl ?_
    refine ev_get frX12_338 dX12_tripHere_22 dm8_0 en8_0 rfl ?_
    obtain ⟨s10, s11, h12⟩ := h9
    refine ev_iast dX12_tripHere_25 dm8_23 ar8_23 (by decide) s10 s11 ?_
    refine ev_aload_n (j := 0) dX12_tripHere_26 rfl rfl ?_
    refine ev_bipush dX12_tripHere_27 (by decide) ?_
    refine ev_callVI (As := [iv 45]) (st := []) mfX12_skips mlX12_346 dX12_tripHere_29 rfl dm8_0 en8_0 rfl rfl rfl (by decide) (by decide) (by decide) (Nat.le_of_ble_eq_true rfl) (fun _ _ z => z.elim) h12 (fun x15 M13 h14 => ?_)
    obtain ⟨s16, h17⟩ := h14
    obtain ⟨h18, h19⟩ := h17
    refine ev_if_eq 44 dX12_tripHere_32 (by decide) s16 (fun c20 => ?_) (fun c20 => ?_)
    · have h21 := h18 c20
      refine ev_iconst dX12_tripHere_44 ?_
      exact ev_zret dX12_tripHere_45 (by decide) rfl (by decide) h21
    · have h22 := h19 c20
      refine ev_aload_n (j := 0) dX12_tripHere_35 rfl rfl ?_
      refine ev_bipush dX12_tripHere_36 (by decide) ?_
      refine ev_callVI (As := [iv 11]) (st := []) mfX12_number mlX12_341 dX12_tripHere_38 rfl dm8_0 en8_0 rfl rfl rfl (by decide) (by decide) (by decide) (Nat.le_of_ble_eq_true rfl) (fun _ _ z => z.elim) h22 (fun x25 M23 h24 => ?_)
      obtain ⟨s26, h27⟩ := h24
      obtain ⟨h28, h29⟩ := h27
      refine ev_if_ne 46 dX12_tripHere_41 (by decide) s26 (fun c30 => ?_) (fun c30 => ?_)
      · have h31 := h28 c30
        refine ev_aload_n (j := 0) dX12_tripHere_46 rfl rfl ?_
        refine ev_get frX12_81 dX12_tripHere_47 dm8_0 en8_0 rfl ?_
        refine ev_iconst dX12_tripHere_50 ?_
        refine ev_aload_n (j := 0) dX12_tripHere_51 rfl rfl ?_
        refine ev_get frX12_343 dX12_tripHere_52 dm8_0 en8_0 rfl ?_
        refine ev_imul dX12_tripHere_55 ?_
        refine ev_iconst dX12_tripHere_56 ?_
        refine ev_iadd dX12_tripHere_57 ?_
        refine ev_aload_n (j := 0) dX12_tripHere_58 rfl rfl ?_
        refine ev_get frX12_338 dX12_tripHere_59 dm8_0 en8_0 rfl ?_
        obtain ⟨s32, s33, h34⟩ := h31
        refine ev_iast dX12_tripHere_62 dm8_23 ar8_23 (by decide) s32 s33 ?_
        refine ev_aload_n (j := 0) dX12_tripHere_63 rfl rfl ?_
        refine ev_bipush dX12_tripHere_64 (by decide) ?_
        refine ev_callVI (As := [iv 64]) (st := []) mfX12_skips mlX12_346 dX12_tripHere_66 rfl dm8_0 en8_0 rfl rfl rfl (by decide) (by decide) (by decide) (Nat.le_of_ble_eq_true rfl) (fun _ _ z => z.elim) h34 (fun x37 M35 h36 => ?_)
        obtain ⟨s38, h39⟩ := h36
        obtain ⟨h40, h41⟩ := h39
        refine ev_if_eq 82 dX12_tripHere_69 (by decide) s38 (fun c42 => ?_) (fun c42 => ?_)
        · have h43 := h40 c42
          refine ev_iconst dX12_tripHere_82 ?_
          exact ev_zret dX12_tripHere_83 (by decide) rfl (by decide) h43
        · have h44 := h41 c42
          refine ev_aload_n (j := 0) dX12_tripHere_72 rfl rfl ?_
          refine ev_sipush dX12_tripHere_73 (by decide) ?_
          refine ev_callVI (As := [iv 1439]) (st := []) mfX12_number mlX12_341 dX12_tripHere_76 rfl dm8_0 en8_0 rfl rfl rfl (by decide) (by decide) (by decide) (Nat.le_of_ble_eq_true rfl) (fun _ _ z => z.elim) h44 (fun x47 M45 h46 => ?_)
          obtain ⟨s48, h49⟩ := h46
          obtain ⟨h50, h51⟩ := h49
          refine ev_if_ne 84 dX12_tripHere_79 (by decide) s48 (fun c52 => ?_) (fun c52 => ?_)
          · have h53 := h50 c52
            refine ev_aload_n (j := 0) dX12_tripHere_84 rfl rfl ?_
            refine ev_get frX12_81 dX12_tripHere_85 dm8_0 en8_0 rfl ?_
            refine ev_iconst dX12_tripHere_88 ?_
            refine ev_aload_n (j := 0) dX12_tripHere_89 rfl rfl ?_
            refine ev_get frX12_343 dX12_tripHere_90 dm8_0 en8_0 rfl ?_
            refine ev_imul dX12_tripHere_93 ?_
            refine ev_iconst dX12_tripHere_94 ?_
            refine ev_iadd dX12_tripHere_95 ?_
            refine ev_aload_n (j := 0) dX12_tripHere_96 rfl rfl ?_
            refine ev_get frX12_338 dX12_tripHere_97 dm8_0 en8_0 rfl ?_
            obtain ⟨s54, s55, h56⟩ := h53
            refine ev_iast dX12_tripHere_100 dm8_23 ar8_23 (by decide) s54 s55 ?_
            refine ev_aload_n (j := 0) dX12_tripHere_101 rfl rfl ?_
            refine ev_dup dX12_tripHere_102 rfl ?_
            refine ev_get frX12_343 dX12_tripHere_103 dm8_0 en8_0 rfl ?_
            refine ev_topI (b := M45 8 0 0 38) rfl ?_
            refine ev_iconst dX12_tripHere_106 ?_
            refine ev_iadd dX12_tripHere_107 ?_
            refine ev_put fwX12_343 dX12_tripHere_108 dm8_0 en8_0 rfl rfl rfl (Nat.le_of_ble_eq_true rfl) ?_
            obtain ⟨M57, e59⟩ : ∃ M57 : Mem, M57 = wr (wr M45 8 0 23 ((3 * (M45 8 0 0 38)) + 2) (M45 8 0 0 35)) 8 0 0 38 ((M45 8 0 0 38) + 1) := ⟨_, rfl⟩
            have h58 := h56 _ e59
            refine ev_mem e59 ?_
            refine ev_aload_n (j := 0) dX12_tripHere_111 rfl rfl ?_
            refine ev_bipush dX12_tripHere_112 (by decide) ?_
            refine ev_callVI (As := [iv 59]) (st := []) mfX12_skips mlX12_346 dX12_tripHere_114 rfl dm8_0 en8_0 rfl rfl rfl (by decide) (by decide) (by decide) (Nat.le_of_ble_eq_true rfl) (fun _ _ z => z.elim) h58 (fun x62 M60 h61 => ?_)
            obtain ⟨s63, h64⟩ := h61
            exact ev_zret dX12_tripHere_117 (by decide) rfl s63 h64
          · have h65 := h51 c52
            refine ev_iconst dX12_tripHere_82 ?_
            exact ev_zret dX12_tripHere_83 (by decide) rfl (by decide) h65
      · have h66 := h29 c30
        refine ev_iconst dX12_tripHere_44 ?_
        exact ev_zret dX12_tripHere_45 (by decide) rfl (by decide) h66
  · have h67 := h7 c8
    refine ev_iconst dX12_tripHere_9 ?_
    exact ev_zret dX12_tripHere_10 (by decide) rfl (by decide) h67
def eX12_tripStops (G : GT) (K : List Value → Mem → Prop) (X : String → Mem → Prop) (pc : Nat) (lv : List (Nat × Value)) (st : List Value) (M : Mem) : Prop := Ex G zX12_tripStops 2 0 K X 0 pc lv st M
set_option maxRecDepth 20000 in
set_option maxHeartbeats 4000000 in
theorem bX12_tripStops {G : GT} {K : List Value → Mem → Prop} {X : String → Mem → Prop} {M : Mem} {v1 v2 v3 : Int} (h : Call G 1 0 zX12_isStop [iv v1] M (kI (fun x3 M1 => I32 x3 ∧ ((x3 = 0 → K [iv 1] M1) ∧ (¬ x3 = 0 → Call G 1 0 zX12_isStop [iv v2] M1 (kI (fun x13 M11 => I32 x13 ∧ ((¬ x13 = 0 → I32 v1 ∧ I32 v2 ∧ ((v1 = v2 → K [iv 2] M11) ∧ (¬ v1 = v2 → 0 ≤ 22 + v1 ∧ 22 + v1 < 500 ∧ I32 (M11 8 0 1 (22 + v1)) ∧ (((M11 8 0 1 (22 + v1)) = 0 → K [iv 2] M11) ∧ (¬ (M11 8 0 1 (22 + v1)) = 0 → 0 ≤ 22 + v2 ∧ 22 + v2 < 500 ∧ I32 (M11 8 0 1 (22 + v2)) ∧ (((M11 8 0 1 (22 + v2)) = 0 → K [iv 2] M11) ∧ (¬ (M11 8 0 1 (22 + v2)) = 0 → Call G 0 0 zX12_in [iv v3, iv 0, iv 1439] M11 (kI (fun x50 M48 => I32 x50 ∧ ((¬ x50 = 0 → I32 (M48 8 0 1 37) ∧ ((¬ (M48 8 0 1 37) = 30 → K [iv 0] M48) ∧ ((M48 8 0 1 37) = 30 → K [iv 3] M48))) ∧ (x50 = 0 → K [iv 2] M48)))) noX))))))) ∧ (x13 = 0 → K [iv 1] M11)))) noX)))) noX) : Call G 2 0 zX12_tripStops [rr G 8 0 0, iv v1, iv v2, iv v3] M K X := by
  refine call_intro (lv := [(0, rr G 8 0 0), (1, iv v1), (2, iv v2), (3, iv v3)]) (by decide) rfl (Nat.le_of_ble_eq_true rfl) rfl ?_
  refine ev_iload_n (j := 1) dX12_tripStops_0 rfl rfl ?_
  refine ev_callSI (As := [iv v1]) (st := []) mfX12_isStop mlX12_155 dX12_tripStops_1 rfl rfl (by decide) (by decide) (by decide) (Nat.le_of_ble_eq_true rfl) (fun _ _ z => z.elim) h (fun x3 M1 h2 => ?_)
  obtain ⟨s4, h5⟩ := h2
  obtain ⟨h6, h7⟩ := h5
  refine ev_if_eq 14 dX12_tripStops_4 (by decide) s4 (fun c8 => ?_) (fun c8 => ?_)
  · have h9 := h6 c8
    refine ev_iconst dX12_tripStops_14 ?_
    exact ev_iret dX12_tripStops_15 (by decide) rfl h9
  · have h10 := h7 c8
    refine ev_iload_n (j := 2) dX12_tripStops_7 rfl rfl ?_
    refine ev_callSI (As := [iv v2]) (st := []) mfX12_isStop mlX12_155 dX12_tripStops_8 rfl rfl (by decide) (by decide) (by decide) (Nat.le_of_ble_eq_true rfl) (fun _ _ z => z.elim) h10 (fun x13 M11 h12 => ?_)
    obtain ⟨s14, h15⟩ := h12
    obtain ⟨h16, h17⟩ := h15
    refine ev_if_ne 16 dX12_tripStops_11 (by decide) s14 (fun c18 => ?_) (fun c18 => ?_)
    · have h19 := h16 c18
      refine ev_iload_n (j := 1) dX12_tripStops_16 rfl rfl ?_
      refine ev_iload_n (j := 2) dX12_tripStops_17 rfl rfl ?_
      obtain ⟨s20, s21, h22⟩ := h19
      obtain ⟨h23, h24⟩ := h22
      refine ev_icmp_eq 56 dX12_tripStops_18 (by decide) s20 s21 (fun c25 => ?_) (fun c25 => ?_)
      · have h26 := h23 c25
        refine ev_iconst dX12_tripStops_56 ?_
        exact ev_iret dX12_tripStops_57 (by decide) rfl h26
      · have h27 := h24 c25
        refine ev_aload_n (j := 0) dX12_tripStops_21 rfl rfl ?_
        refine ev_get frX12_7 dX12_tripStops_22 dm8_0 en8_0 rfl ?_
        refine ev_bipush dX12_tripStops_25 (by decide) ?_
        refine ev_iload_n (j := 1) dX12_tripStops_27 rfl rfl ?_
        refine ev_iadd dX12_tripStops_28 ?_
        obtain ⟨s28, s29, h30⟩ := h27
        refine ev_iald dX12_tripStops_29 dm8_1 ar8_1 (by decide) s28 s29 ?_
        obtain ⟨s31, h32⟩ := h30
        obtain ⟨h33, h34⟩ := h32
        refine ev_if_eq 56 dX12_tripStops_30 (by decide) s31 (fun c35 => ?_) (fun c35 => ?_)
        · have h36 := h33 c35
          refine ev_iconst dX12_tripStops_56 ?_
          exact ev_iret dX12_tripStops_57 (by decide) rfl h36
        · have h37 := h34 c35
          refine ev_aload_n (j := 0) dX12_tripStops_33 rfl rfl ?_
          refine ev_get frX12_7 dX12_tripStops_34 dm8_0 en8_0 rfl ?_
          refine ev_bipush dX12_tripStops_37 (by decide) ?_
          refine ev_iload_n (j := 2) dX12_tripStops_39 rfl rfl ?_
          refine ev_iadd dX12_tripStops_40 ?_
          obtain ⟨s38, s39, h40⟩ := h37
          refine ev_iald dX12_tripStops_41 dm8_1 ar8_1 (by decide) s38 s39 ?_
          obtain ⟨s41, h42⟩ := h40
          obtain ⟨h43, h44⟩ := h42
          refine ev_if_eq 56 dX12_tripStops_42 (by decide) s41 (fun c45 => ?_) (fun c45 => ?_)
          · have h46 := h43 c45
            refine ev_iconst dX12_tripStops_56 ?_
            exact ev_iret dX12_tripStops_57 (by decide) rfl h46
          · have h47 := h44 c45
            refine ev_iload_n (j := 3) dX12_tripStops_45 rfl rfl ?_
            refine ev_iconst dX12_tripStops_46 ?_
            refine ev_sipush dX12_tripStops_47 (by decide) ?_
            refine ev_callSI (As := [iv v3, iv 0, iv 1439]) (st := []) mfX12_in mlX12_87 dX12_tripStops_50 rfl rfl (by decide) (by decide) (by decide) (Nat.le_of_ble_eq_true rfl) (fun _ _ z => z.elim) h47 (fun x50 M48 h49 => ?_)
            obtain ⟨s51, h52⟩ := h49
            obtain ⟨h53, h54⟩ := h52
            refine ev_if_ne 58 dX12_tripStops_53 (by decide) s51 (fun c55 => ?_) (fun c55 => ?_)
            · have h56 := h53 c55
              refine ev_aload_n (j := 0) dX12_tripStops_58 rfl rfl ?_
              refine ev_get frX12_7 dX12_tripStops_59 dm8_0 en8_0 rfl ?_
              refine ev_bipush dX12_tripStops_62 (by decide) ?_
              refine ev_iald dX12_tripStops_64 dm8_1 ar8_1 (by decide) (by decide) (by decide) ?_
              refine ev_bipush dX12_tripStops_65 (by decide) ?_
              obtain ⟨s57, h58⟩ := h56
              obtain ⟨h59, h60⟩ := h58
              refine ev_icmp_ne 74 dX12_tripStops_67 (by decide) s57 ⟨by decide, by decide⟩ (fun c61 => ?_) (fun c61 => ?_)
              · have h62 := h59 c61
                refine ev_iconst dX12_tripStops_74 ?_
                exact ev_iret dX12_tripStops_75 (by decide) rfl h62
              · have h63 := h60 c61
                refine ev_iconst dX12_tripStops_70 ?_
                refine ev_goto 75 dX12_tripStops_71 (by decide) ?_
                exact ev_iret dX12_tripStops_75 (by decide) rfl h63
            · have h64 := h54 c55
              refine ev_iconst dX12_tripStops_56 ?_
              exact ev_iret dX12_tripStops_57 (by decide) rfl h64
    · have h65 := h17 c18
      refine ev_iconst dX12_tripStops_14 ?_
      exact ev_iret dX12_tripStops_15 (by decide) rfl h65
def eX12_tripTold (G : GT) (K : List Value → Mem → Prop) (X : String → Mem → Prop) (pc : Nat) (lv : List (Nat × Value)) (st : List Value) (M : Mem) : Prop := Ex G zX12_tripTold 2 0 K X 0 pc lv st M
set_option maxRecDepth 20000 in
set_option maxHeartbeats 4000000 in
theorem bX12_tripTold {G : GT} {K : List Value → Mem → Prop} {X : String → Mem → Prop} {M : Mem} {v1 v2 : Int} (h : I32 v2 ∧ ((v2 = 0 → Call G 0 0 zX12_first [rr G 8 0 0, iv v1] M (kI (fun x13 M11 => K [iv x13] M11)) noX) ∧ (v2 = 1 → Call G 0 0 zX12_last [rr G 8 0 0, iv v1] M (kI (fun x17 M15 => K [iv x17] M15)) noX) ∧ (v2 = 2 → Call G 0 0 zX12_departs [rr G 8 0 0, iv v1] M (kI (fun x21 M19 => K [iv x21] M19)) noX) ∧ (v2 = 3 → Call G 1 0 zX12_arrives [rr G 8 0 0, iv v1] M (kI (fun x25 M23 => K [iv x25] M23)) noX) ∧ (v2 = 4 → Call G 1 0 zX12_direction [rr G 8 0 0, iv v1] M (kI (fun x29 M27 => K [iv x29] M27)) noX) ∧ (v2 = 5 → Call G 0 0 zX12_isActive [rr G 8 0 0, iv v1] M (kI (fun x33 M31 => I32 x33 ∧ ((x33 = 0 → K [iv 1] M31) ∧ (¬ x33 = 0 → K [iv 0] M31)))) noX) ∧ ((v2 < 0 ∨ 5 < v2) → Call G 1 0 zX12_vehicleOf [rr G 8 0 0, iv v1] M (kI (fun x44 M42 => K [iv x44] M42)) noX))) : Call G 2 0 zX12_tripTold [rr G 8 0 0, iv v1, iv v2] M K X := by
  refine call_intro (lv := [(0, rr G 8 0 0), (1, iv v1), (2, iv v2)]) (by decide) rfl (Nat.le_of_ble_eq_true rfl) rfl ?_
  refine ev_iload_n (j := 2) dX12_tripTold_0 rfl rfl ?_
  obtain ⟨s1, h2⟩ := h
  obtain ⟨h3, h4, h5, h6, h7, h8, h9⟩ := h2
  refine ev_tsw dX12_tripTold_1 s1 (by decide) (fun j9 o9 hj9 ha9 t9 ht9 _ => ?_) (fun j9 o9 hj9 => ?_) (fun c9 t9 ht9 => ?_) (by decide)
  · have hb9 : j9 < 6 := (Array.getElem?_eq_some_iff.mp hj9).1
    rcases (show j9 = 0 ∨ j9 = 1 ∨ j9 = 2 ∨ j9 = 3 ∨ j9 = 4 ∨ j9 = 5 by omega) with rfl | rfl | rfl | rfl | rfl | rfl
    · obtain rfl : o9 = (39 : Int) := (Option.some.inj (show some (39 : Int) = some o9 from hj9)).symm
      obtain rfl : t9 = 40 := by omega
      have h10 := h3 (by omega)
      refine ev_aload_n (j := 0) dX12_tripTold_40 rfl rfl ?_
      refine ev_iload_n (j := 1) dX12_tripTold_41 rfl rfl ?_
      refine ev_callVI (As := [iv v1]) (st := []) mfX12_first mlX12_113 dX12_tripTold_42 rfl dm8_0 en8_0 rfl rfl rfl (by decide) (by decide) (by decide) (Nat.le_of_ble_eq_true rfl) (fun _ _ z => z.elim) h10 (fun x13 M11 h12 => ?_)
      exact ev_iret dX12_tripTold_45 (by decide) rfl h12
    · obtain rfl : o9 = (45 : Int) := (Option.some.inj (show some (45 : Int) = some o9 from hj9)).symm
      obtain rfl : t9 = 46 := by omega
      have h14 := h4 (by omega)
      refine ev_aload_n (j := 0) dX12_tripTold_46 rfl rfl ?_
      refine ev_iload_n (j := 1) dX12_tripTold_47 rfl rfl ?_
      refine ev_callVI (As := [iv v1]) (st := []) mfX12_last mlX12_116 dX12_tripTold_48 rfl dm8_0 en8_0 rfl rfl rfl (by decide) (by decide) (by decide) (Nat.le_of_ble_eq_true rfl) (fun _ _ z => z.elim) h14 (fun x17 M15 h16 => ?_)
      exact ev_iret dX12_tripTold_51 (by decide) rfl h16
    · obtain rfl : o9 = (51 : Int) := (Option.some.inj (show some (51 : Int) = some o9 from hj9)).symm
      obtain rfl : t9 = 52 := by omega
      have h18 := h5 (by omega)
      refine ev_aload_n (j := 0) dX12_tripTold_52 rfl rfl ?_
      refine ev_iload_n (j := 1) dX12_tripTold_53 rfl rfl ?_
      refine ev_callVI (As := [iv v1]) (st := []) mfX12_departs mlX12_109 dX12_tripTold_54 rfl dm8_0 en8_0 rfl rfl rfl (by decide) (by decide) (by decide) (Nat.le_of_ble_eq_true rfl) (fun _ _ z => z.elim) h18 (fun x21 M19 h20 => ?_)
      exact ev_iret dX12_tripTold_57 (by decide) rfl h20
    · obtain rfl : o9 = (57 : Int) := (Option.some.inj (show some (57 : Int) = some o9 from hj9)).symm
      obtain rfl : t9 = 58 := by omega
      have h22 := h6 (by omega)
      refine ev_aload_n (j := 0) dX12_tripTold_58 rfl rfl ?_
      refine ev_iload_n (j := 1) dX12_tripTold_59 rfl rfl ?_
      refine ev_callVI (As := [iv v1]) (st := []) mfX12_arrives mlX12_123 dX12_tripTold_60 rfl dm8_0 en8_0 rfl rfl rfl (by decide) (by decide) (by decide) (Nat.le_of_ble_eq_true rfl) (fun _ _ z => z.elim) h22 (fun x25 M23 h24 => ?_)
      exact ev_iret dX12_tripTold_63 (by decide) rfl h24
    · obtain rfl : o9 = (63 : Int) := (Option.some.inj (show some (63 : Int) = some o9 from hj9)).symm
      obtain rfl : t9 = 64 := by omega
      have h26 := h7 (by omega)
      refine ev_aload_n (j := 0) dX12_tripTold_64 rfl rfl ?_
      refine ev_iload_n (j := 1) dX12_tripTold_65 rfl rfl ?_
      refine ev_callVI (As := [iv v1]) (st := []) mfX12_direction mlX12_176 dX12_tripTold_66 rfl dm8_0 en8_0 rfl rfl rfl (by decide) (by decide) (by decide) (Nat.le_of_ble_eq_true rfl) (fun _ _ z => z.elim) h26 (fun x29 M27 h28 => ?_)
      exact ev_iret dX12_tripTold_69 (by decide) rfl h28
    · obtain rfl : o9 = (69 : Int) := (Option.some.inj (show some (69 : Int) = some o9 from hj9)).symm
      obtain rfl : t9 = 70 := by omega
      have h30 := h8 (by omega)
      refine ev_aload_n (j := 0) dX12_tripTold_70 rfl rfl ?_
      refine ev_iload_n (j := 1) dX12_tripTold_71 rfl rfl ?_
      refine ev_callVI (As := [iv v1]) (st := []) mfX12_isActive mlX12_149 dX12_tripTold_72 rfl dm8_0 en8_0 rfl rfl rfl (by decide) (by decide) (by decide) (Nat.le_of_ble_eq_true rfl) (fun _ _ z => z.elim) h30 (fun x33 M31 h32 => ?_)
      obtain ⟨s34, h35⟩ := h32
      obtain ⟨h36, h37⟩ := h35
      refine ev_if_eq 82 dX12_tripTold_75 (by decide) s34 (fun c38 => ?_) (fun c38 => ?_)
      · have h39 := h36 c38
        refine ev_iconst dX12_tripTold_82 ?_
        exact ev_iret dX12_tripTold_83 (by decide) rfl h39
      · have h40 := h37 c38
        refine ev_iconst dX12_tripTold_78 ?_
        refine ev_goto 83 dX12_tripTold_79 (by decide) ?_
        exact ev_iret dX12_tripTold_83 (by decide) rfl h40
  · have hb9 : j9 < 6 := (Array.getElem?_eq_some_iff.mp hj9).1
    rcases (show j9 = 0 ∨ j9 = 1 ∨ j9 = 2 ∨ j9 = 3 ∨ j9 = 4 ∨ j9 = 5 by omega) with rfl | rfl | rfl | rfl | rfl | rfl <;> (have hj8 := Option.some.inj hj9; revert hj8; intro hj8; subst hj8; decide)
  · obtain rfl : t9 = 84 := by omega
    have h41 := h9 c9
    refine ev_aload_n (j := 0) dX12_tripTold_84 rfl rfl ?_
    refine ev_iload_n (j := 1) dX12_tripTold_85 rfl rfl ?_
    refine ev_callVI (As := [iv v1]) (st := []) mfX12_vehicleOf mlX12_166 dX12_tripTold_86 rfl dm8_0 en8_0 rfl rfl rfl (by decide) (by decide) (by decide) (Nat.le_of_ble_eq_true rfl) (fun _ _ z => z.elim) h41 (fun x44 M42 h43 => ?_)
    exact ev_iret dX12_tripTold_89 (by decide) rfl h43
def eX12_turnShort (G : GT) (K : List Value → Mem → Prop) (X : String → Mem → Prop) (pc : Nat) (lv : List (Nat × Value)) (st : List Value) (M : Mem) : Prop := Ex G zX12_turnShort 3 0 K X 0 pc lv st M
set_option maxRecDepth 20000 in
set_option maxHeartbeats 4000000 in
theorem bX12_turnShort {G : GT} {K : List Value → Mem → Prop} {X : String → Mem → Prop} {M : Mem} {v1 v2 : Int} (h : Call G 1 0 zX12_isTrip [rr G 8 0 0, iv v1] M (kI (fun x3 M1 => I32 x3 ∧ ((x3 = 0 → K [iv 0] (wr M1 8 0 0 7 1)) ∧ (¬ x3 = 0 → Call G 2 0 zX12_isInside [rr G 8 0 0, iv v1, iv v2] M1 (kI (fun x13 M11 => I32 x13 ∧ ((x13 = 0 → K [iv 0] (wr M11 8 0 0 7 2)) ∧ (¬ x13 = 0 → Call G 1 0 zX12_begins [rr G 8 0 0] (wr M11 8 0 0 7 0) (kV (fun M21 => Call G 1 0 zX12_arrives [rr G 8 0 0, iv v1] M21 (kI (fun x26 M24 => Call G 2 0 zX12_leaves [rr G 8 0 0, iv v1, iv 0] M24 (kV (fun M27 => 0 ≤ (40 + (4 * v1)) + 1 ∧ (40 + (4 * v1)) + 1 < 500 ∧ Call G 0 0 zX12_remembers [rr G 8 0 0] (wr M27 8 0 1 ((40 + (4 * v1)) + 1) v2) (kV (fun M33 => Call G 1 0 zX12_arrives [rr G 8 0 0, iv v1] M33 (kI (fun x38 M36 => K [iv (x26 - x38)] M36)) noX)) noX)) noX)) noX)) noX)))) noX)))) noX) : Call G 3 0 zX12_turnShort [rr G 8 0 0, iv v1, iv v2] M K X := by
  refine call_intro (lv := [(0, rr G 8 0 0), (1, iv v1), (2, iv v2)]) (by decide) rfl (Nat.le_of_ble_eq_true rfl) rfl ?_
  refine ev_aload_n (j := 0) dX12_turnShort_0 rfl rfl ?_
  refine ev_aload_n (j := 0) dX12_turnShort_1 rfl rfl ?_
  refine ev_iload_n (j := 1) dX12_turnShort_2 rfl rfl ?_
  refine ev_callVI (As := [iv v1]) (st := [rr G 8 0 0]) mfX12_isTrip mlX12_169 dX12_turnShort_3 rfl dm8_0 en8_0 rfl rfl rfl (by decide) (by decide) (by decide) (Nat.le_of_ble_eq_true rfl) (fun _ _ z => z.elim) h (fun x3 M1 h2 => ?_)
  obtain ⟨s4, h5⟩ := h2
  obtain ⟨h6, h7⟩ := h5
  refine ev_if_eq 26 dX12_turnShort_6 (by decide) s4 (fun c8 => ?_) (fun c8 => ?_)
  · have h9 := h6 c8
    refine ev_iconst dX12_turnShort_26 ?_
    refine ev_put fwX12_84 dX12_turnShort_27 dm8_0 en8_0 rfl rfl rfl (Nat.le_of_ble_eq_true rfl) ?_
    refine ev_aload_n (j := 0) dX12_turnShort_30 rfl rfl ?_
    refine ev_get frX12_84 dX12_turnShort_31 dm8_0 en8_0 rfl ?_
    refine ev_topI (b := 1) rfl ?_
    refine ev_if_le 39 dX12_turnShort_34 (by decide) ⟨by decide, by decide⟩ (fun c9 => absurd c9 (by decide)) (fun _ => ?_)
    refine ev_iconst dX12_turnShort_37 ?_
    exact ev_iret dX12_turnShort_38 (by decide) rfl h9
  · have h10 := h7 c8
    refine ev_aload_n (j := 0) dX12_turnShort_9 rfl rfl ?_
    refine ev_iload_n (j := 1) dX12_turnShort_10 rfl rfl ?_
    refine ev_iload_n (j := 2) dX12_turnShort_11 rfl rfl ?_
    refine ev_callVI (As := [iv v1, iv v2]) (st := [rr G 8 0 0]) mfX12_isInside mlX12_295 dX12_turnShort_12 rfl dm8_0 en8_0 rfl rfl rfl (by decide) (by decide) (by decide) (Nat.le_of_ble_eq_true rfl) (fun _ _ z => z.elim) h10 (fun x13 M11 h12 => ?_)
    obtain ⟨s14, h15⟩ := h12
    obtain ⟨h16, h17⟩ := h15
    refine ev_if_eq 22 dX12_turnShort_15 (by decide) s14 (fun c18 => ?_) (fun c18 => ?_)
    · have h19 := h16 c18
      refine ev_iconst dX12_turnShort_22 ?_
      refine ev_goto 27 dX12_turnShort_23 (by decide) ?_
      refine ev_put fwX12_84 dX12_turnShort_27 dm8_0 en8_0 rfl rfl rfl (Nat.le_of_ble_eq_true rfl) ?_
      refine ev_aload_n (j := 0) dX12_turnShort_30 rfl rfl ?_
      refine ev_get frX12_84 dX12_turnShort_31 dm8_0 en8_0 rfl ?_
      refine ev_topI (b := 2) rfl ?_
      refine ev_if_le 39 dX12_turnShort_34 (by decide) ⟨by decide, by decide⟩ (fun c9 => absurd c9 (by decide)) (fun _ => ?_)
      refine ev_iconst dX12_turnShort_37 ?_
      exact ev_iret dX12_turnShort_38 (by decide) rfl h19
    · have h20 := h17 c18
      refine ev_iconst dX12_turnShort_18 ?_
      refine ev_goto 27 dX12_turnShort_19 (by decide) ?_
      refine ev_put fwX12_84 dX12_turnShort_27 dm8_0 en8_0 rfl rfl rfl (Nat.le_of_ble_eq_true rfl) ?_
      refine ev_aload_n (j := 0) dX12_turnShort_30 rfl rfl ?_
      refine ev_get frX12_84 dX12_turnShort_31 dm8_0 en8_0 rfl ?_
      refine ev_topI (b := 0) rfl ?_
      refine ev_if_le 39 dX12_turnShort_34 (by decide) ⟨by decide, by decide⟩ (fun _ => ?_) (fun c9 => absurd c9 (by decide))
      refine ev_aload_n (j := 0) dX12_turnShort_39 rfl rfl ?_
      refine ev_callVV (As := []) (st := []) mfX12_begins mlX12_139 dX12_turnShort_40 rfl dm8_0 en8_0 rfl rfl rfl (by decide) (by decide) (by decide) (Nat.le_of_ble_eq_true rfl) (fun _ _ z => z.elim) h20 (fun M21 h22 => ?_)
      refine ev_aload_n (j := 0) dX12_turnShort_43 rfl rfl ?_
      refine ev_iload_n (j := 1) dX12_turnShort_44 rfl rfl ?_
      refine ev_callVI (As := [iv v1]) (st := []) mfX12_arrives mlX12_123 dX12_turnShort_45 rfl dm8_0 en8_0 rfl rfl rfl (by decide) (by decide) (by decide) (Nat.le_of_ble_eq_true rfl) (fun _ _ z => z.elim) h22 (fun x26 M24 h25 => ?_)
      refine ev_istore_n dX12_turnShort_48 rfl (by decide) rfl ?_
      refine ev_aload_n (j := 1) dX12_turnShort_49 rfl rfl ?_
      refine ev_iload_n (j := 2) dX12_turnShort_50 rfl rfl ?_
      refine ev_iconst dX12_turnShort_51 ?_
      refine ev_callVV (As := [iv v1, iv 0]) (st := []) mfX12_leaves mlX12_172 dX12_turnShort_52 rfl dm8_0 en8_0 rfl rfl rfl (by decide) (by decide) (by decide) (Nat.le_of_ble_eq_true rfl) (fun _ _ z => z.elim) h25 (fun M27 h28 => ?_)
      refine ev_aload_n (j := 1) dX12_turnShort_55 rfl rfl ?_
      refine ev_get frX12_7 dX12_turnShort_56 dm8_0 en8_0 rfl ?_
      refine ev_bipush dX12_turnShort_59 (by decide) ?_
      refine ev_iconst dX12_turnShort_61 ?_
      refine ev_iload_n (j := 2) dX12_turnShort_62 rfl rfl ?_
      refine ev_imul dX12_turnShort_63 ?_
      refine ev_iadd dX12_turnShort_64 ?_
      refine ev_iconst dX12_turnShort_65 ?_
      refine ev_iadd dX12_turnShort_66 ?_
      refine ev_iload_n (j := 3) dX12_turnShort_67 rfl rfl ?_
      obtain ⟨s30, s31, h32⟩ := h28
      refine ev_iast dX12_turnShort_68 dm8_1 ar8_1 (by decide) s30 s31 ?_
      refine ev_aload_n (j := 1) dX12_turnShort_69 rfl rfl ?_
      refine ev_callVV (As := []) (st := []) mfX12_remembers mlX12_102 dX12_turnShort_70 rfl dm8_0 en8_0 rfl rfl rfl (by decide) (by decide) (by decide) (Nat.le_of_ble_eq_true rfl) (fun _ _ z => z.elim) h32 (fun M33 h34 => ?_)
      refine ev_iload_n (j := 0) dX12_turnShort_73 rfl rfl ?_
      refine ev_aload_n (j := 1) dX12_turnShort_74 rfl rfl ?_
      refine ev_iload_n (j := 2) dX12_turnShort_75 rfl rfl ?_
      refine ev_callVI (As := [iv v1]) (st := [iv x26]) mfX12_arrives mlX12_123 dX12_turnShort_76 rfl dm8_0 en8_0 rfl rfl rfl (by decide) (by decide) (by decide) (Nat.le_of_ble_eq_true rfl) (fun _ _ z => z.elim) h34 (fun x38 M36 h37 => ?_)
      refine ev_isub dX12_turnShort_79 ?_
      exact ev_iret dX12_turnShort_80 (by decide) rfl h37
def eX12_turns (G : GT) (K : List Value → Mem → Prop) (X : String → Mem → Prop) (pc : Nat) (lv : List (Nat × Value)) (st : List Value) (M : Mem) : Prop := Ex G zX12_turns 0 0 K X 0 pc lv st M
set_option maxRecDepth 20000 in
set_option maxHeartbeats 4000000 in
theorem bX12_turns {G : GT} {K : List Value → Mem → Prop} {X : String → Mem → Prop} {M : Mem} (h : eX12_turns G K X 4 [(0, rr G 8 0 0), (1, iv 0), (2, iv 0)] [] M) : Call G 0 0 zX12_turns [rr G 8 0 0] M K X := by
  refine call_intro (lv := [(0, rr G 8 0 0)]) (by decide) rfl (Nat.le_of_ble_eq_true rfl) rfl ?_
  refine ev_iconst dX12_turns_0 ?_
  refine ev_istore_n dX12_turns_1 rfl (by decide) rfl ?_
  refine ev_iconst dX12_turns_2 ?_
  refine ev_istore_n dX12_turns_3 rfl (by decide) rfl ?_
  exact ev_sub [2, 1, 0] rfl h
set_option maxRecDepth 20000 in
set_option maxHeartbeats 4000000 in
theorem bX12_turns_4 {G : GT} {K : List Value → Mem → Prop} {X : String → Mem → Prop} {M : Mem} {v1 v2 : Int} (h : I32 v2 ∧ ((¬ v2 < 12 → K [iv v1] M) ∧ (v2 < 12 → 0 ≤ 22 + v2 ∧ 22 + v2 < 500 ∧ eX12_turns G K X 4 [(0, rr G 8 0 0), (1, iv (v1 + (M 8 0 1 (22 + v2)))), (2, iv (v2 + 1))] [] M))) : eX12_turns G K X 4 [(0, rr G 8 0 0), (1, iv v1), (2, iv v2)] [] M := by
  show Ex G zX12_turns 0 0 K X 0 4 [(0, rr G 8 0 0), (1, iv v1), (2, iv v2)] [] M
  refine ev_iload_n (j := 2) dX12_turns_4 rfl rfl ?_
  refine ev_bipush dX12_turns_5 (by decide) ?_
  obtain ⟨s1, h2⟩ := h
  obtain ⟨h3, h4⟩ := h2
  refine ev_icmp_ge 28 dX12_turns_7 (by decide) s1 ⟨by decide, by decide⟩ (fun c5 => ?_) (fun c5 => ?_)
  · have h6 := h3 c5
    refine ev_iload_n (j := 1) dX12_turns_28 rfl rfl ?_
    exact ev_iret dX12_turns_29 (by decide) rfl h6
  · have h7 := h4 c5
    refine ev_iload_n (j := 1) dX12_turns_10 rfl rfl ?_
    refine ev_aload_n (j := 0) dX12_turns_11 rfl rfl ?_
    refine ev_get frX12_7 dX12_turns_12 dm8_0 en8_0 rfl ?_
    refine ev_bipush dX12_turns_15 (by decide) ?_
    refine ev_iload_n (j := 2) dX12_turns_17 rfl rfl ?_
    refine ev_iadd dX12_turns_18 ?_
    obtain ⟨s8, s9, h10⟩ := h7
    refine ev_iald dX12_turns_19 dm8_1 ar8_1 (by decide) s8 s9 ?_
    refine ev_iadd dX12_turns_20 ?_
    refine ev_istore_n dX12_turns_21 rfl (by decide) rfl ?_
    refine ev_iinc (j := 2) dX12_turns_22 rfl (by decide) rfl ?_
    refine ev_goto 4 dX12_turns_25 (by decide) ?_
    exact ev_sub [2, 1, 0] rfl h10
def eX12_turnsWay (G : GT) (K : List Value → Mem → Prop) (X : String → Mem → Prop) (pc : Nat) (lv : List (Nat × Value)) (st : List Value) (M : Mem) : Prop := Ex G zX12_turnsWay 0 0 K X 0 pc lv st M
set_option maxRecDepth 20000 in
set_option maxHeartbeats 4000000 in
theorem bX12_turnsWay {G : GT} {K : List Value → Mem → Prop} {X : String → Mem → Prop} {M : Mem} {v1 : Int} (h : eX12_turnsWay G K X 2 [(0, rr G 8 0 0), (2, iv v1)] [] M) : Call G 0 0 zX12_turnsWay [rr G 8 0 0, iv v1] M K X := by
  refine call_intro (lv := [(0, rr G 8 0 0), (1, iv v1)]) (by decide) rfl (Nat.le_of_ble_eq_true rfl) rfl ?_
  refine ev_iload_n (j := 1) dX12_turnsWay_0 rfl rfl ?_
  refine ev_istore_n dX12_turnsWay_1 rfl (by decide) rfl ?_
  exact ev_sub [1, 0] rfl h
set_option maxRecDepth 20000 in
set_option maxHeartbeats 4000000 in
theorem bX12_turnsWay_2 {G : GT} {K : List Value → Mem → Prop} {X : String → Mem → Prop} {M : Mem} {v2 : Int} (h : I32 v2 ∧ ((v2 < 0 → K [] M) ∧ (¬ v2 < 0 → 0 ≤ v2 ∧ v2 < 30 ∧ 0 ≤ M 8 0 21 v2 ∧ M 8 0 21 v2 < 30 ∧ eX12_turnsWay G K X 2 [(0, rr G 8 0 0), (2, iv (M 8 0 18 (M 8 0 21 v2)))] [] (wr (wr M 8 0 18 (M 8 0 21 v2) v2) 8 0 14 v2 (M 8 0 21 v2))))) : eX12_turnsWay G K X 2 [(0, rr G 8 0 0), (2, iv v2)] [] M := by
  show Ex G zX12_turnsWay 0 0 K X 0 2 [(0, rr G 8 0 0), (2, iv v2)] [] M
  refine ev_iload_n (j := 1) dX12_turnsWay_2 rfl rfl ?_
  obtain ⟨s1, h2⟩ := h
  obtain ⟨h3, h4⟩ := h2
  refine ev_if_lt 41 dX12_turnsWay_3 (by decide) s1 (fun c5 => ?_) (fun c5 => ?_)
  · have h6 := h3 c5
    exact ev_vret dX12_turnsWay_41 (by decide) rfl h6
  · have h7 := h4 c5
    refine ev_aload_n (j := 0) dX12_turnsWay_6 rfl rfl ?_
    refine ev_get frX12_71 dX12_turnsWay_7 dm8_0 en8_0 rfl ?_
    refine ev_iload_n (j := 1) dX12_turnsWay_10 rfl rfl ?_
    obtain ⟨s8, s9, h10⟩ := h7
    refine ev_iald dX12_turnsWay_11 dm8_21 ar8_21 (by decide) s8 s9 ?_
    refine ev_istore_n dX12_turnsWay_12 rfl (by decide) rfl ?_
    refine ev_aload_n (j := 1) dX12_turnsWay_13 rfl rfl ?_
    refine ev_get frX12_62 dX12_turnsWay_14 dm8_0 en8_0 rfl ?_
    refine ev_iload_n (j := 0) dX12_turnsWay_17 rfl rfl ?_
    obtain ⟨s11, s12, h13⟩ := h10
    refine ev_iald dX12_turnsWay_18 dm8_18 ar8_18 (by decide) s11 s12 ?_
    refine ev_istore dX12_turnsWay_19 (by decide) rfl ?_
    refine ev_aload_n (j := 2) dX12_turnsWay_21 rfl rfl ?_
    refine ev_get frX12_62 dX12_turnsWay_22 dm8_0 en8_0 rfl ?_
    refine ev_iload_n (j := 1) dX12_turnsWay_25 rfl rfl ?_
    refine ev_iload_n (j := 3) dX12_turnsWay_26 rfl rfl ?_
    refine ev_iast dX12_turnsWay_27 dm8_18 ar8_18 (by decide) s11 s12 ?_
    refine ev_aload_n (j := 2) dX12_turnsWay_28 rfl rfl ?_
    refine ev_get frX12_49 dX12_turnsWay_29 dm8_0 en8_0 rfl ?_
    refine ev_iload_n (j := 3) dX12_turnsWay_32 rfl rfl ?_
    refine ev_iload_n (j := 1) dX12_turnsWay_33 rfl rfl ?_
    refine ev_iast dX12_turnsWay_34 dm8_14 ar8_14 (by decide) s8 s9 ?_
    refine ev_iload (j := 0) dX12_turnsWay_35 rfl ?_
    refine ev_istore_n dX12_turnsWay_37 rfl (by decide) rfl ?_
    refine ev_goto 2 dX12_turnsWay_38 (by decide) ?_
    exact ev_sub [3, 0] rfl h13
def eX12_unblock (G : GT) (K : List Value → Mem → Prop) (X : String → Mem → Prop) (pc : Nat) (lv : List (Nat × Value)) (st : List Value) (M : Mem) : Prop := Ex G zX12_unblock 2 0 K X 0 pc lv st M
set_option maxRecDepth 20000 in
set_option maxHeartbeats 4000000 in
theorem bX12_unblock {G : GT} {K : List Value → Mem → Prop} {X : String → Mem → Prop} {M : Mem} {v1 : Int} (h : Call G 0 0 zX12_in [iv v1, iv 0, iv ((M 8 0 1 481) - 1)] M (kI (fun x3 M1 => I32 x3 ∧ ((x3 = 0 → K [iv 0] (wr M1 8 0 0 7 1)) ∧ (¬ x3 = 0 → Call G 1 0 zX12_begins [rr G 8 0 0] (wr M1 8 0 0 7 0) (kV (fun M11 => eX12_unblock G K X 60 [(0, rr G 8 0 0), (2, iv (482 + (3 * v1)))] [] (wr M11 8 0 1 481 ((M11 8 0 1 481) - 1)))) noX)))) noX) : Call G 2 0 zX12_unblock [rr G 8 0 0, iv v1] M K X := by
  refine call_intro (lv := [(0, rr G 8 0 0), (1, iv v1)]) (by decide) rfl (Nat.le_of_ble_eq_true rfl) rfl ?_
  refine ev_aload_n (j := 0) dX12_unblock_0 rfl rfl ?_
  refine ev_iload_n (j := 1) dX12_unblock_1 rfl rfl ?_
  refine ev_iconst dX12_unblock_2 ?_
  refine ev_aload_n (j := 0) dX12_unblock_3 rfl rfl ?_
  refine ev_get frX12_7 dX12_unblock_4 dm8_0 en8_0 rfl ?_
  refine ev_sipush dX12_unblock_7 (by decide) ?_
  refine ev_iald dX12_unblock_10 dm8_1 ar8_1 (by decide) (by decide) (by decide) ?_
  refine ev_iconst dX12_unblock_11 ?_
  refine ev_isub dX12_unblock_12 ?_
  refine ev_callSI (As := [iv v1, iv 0, iv ((M 8 0 1 481) - 1)]) (st := [rr G 8 0 0]) mfX12_in mlX12_87 dX12_unblock_13 rfl rfl (by decide) (by decide) (by decide) (Nat.le_of_ble_eq_true rfl) (fun _ _ z => z.elim) h (fun x3 M1 h2 => ?_)
  obtain ⟨s4, h5⟩ := h2
  obtain ⟨h6, h7⟩ := h5
  refine ev_if_eq 23 dX12_unblock_16 (by decide) s4 (fun c8 => ?_) (fun c8 => ?_)
  · have h9 := h6 c8
    refine ev_iconst dX12_unblock_23 ?_
    refine ev_put fwX12_84 dX12_unblock_24 dm8_0 en8_0 rfl rfl rfl (Nat.le_of_ble_eq_true rfl) ?_
    refine ev_aload_n (j := 0) dX12_unblock_27 rfl rfl ?_
    refine ev_get frX12_84 dX12_unblock_28 dm8_0 en8_0 rfl ?_
    refine ev_topI (b := 1) rfl ?_
    refine ev_if_le 36 dX12_unblock_31 (by decide) ⟨by decide, by decide⟩ (fun c9 => absurd c9 (by decide)) (fun _ => ?_)
    refine ev_iconst dX12_unblock_34 ?_
    exact ev_iret dX12_unblock_35 (by decide) rfl h9
  · have h10 := h7 c8
    refine ev_iconst dX12_unblock_19 ?_
    refine ev_goto 24 dX12_unblock_20 (by decide) ?_
    refine ev_put fwX12_84 dX12_unblock_24 dm8_0 en8_0 rfl rfl rfl (Nat.le_of_ble_eq_true rfl) ?_
    refine ev_aload_n (j := 0) dX12_unblock_27 rfl rfl ?_
    refine ev_get frX12_84 dX12_unblock_28 dm8_0 en8_0 rfl ?_
    refine ev_topI (b := 0) rfl ?_
    refine ev_if_le 36 dX12_unblock_31 (by decide) ⟨by decide, by decide⟩ (fun _ => ?_) (fun c9 => absurd c9 (by decide))
    refine ev_aload_n (j := 0) dX12_unblock_36 rfl rfl ?_
    refine ev_callVV (As := []) (st := []) mfX12_begins mlX12_139 dX12_unblock_37 rfl dm8_0 en8_0 rfl rfl rfl (by decide) (by decide) (by decide) (Nat.le_of_ble_eq_true rfl) (fun _ _ z => z.elim) h10 (fun M11 h12 => ?_)
    refine ev_aload_n (j := 0) dX12_unblock_40 rfl rfl ?_
    refine ev_get frX12_7 dX12_unblock_41 dm8_0 en8_0 rfl ?_
    refine ev_sipush dX12_unblock_44 (by decide) ?_
    refine ev_dup2 dX12_unblock_47 rfl rfl ?_
    refine ev_iald dX12_unblock_48 dm8_1 ar8_1 (by decide) (by decide) (by decide) ?_
    refine ev_iconst dX12_unblock_49 ?_
    refine ev_isub dX12_unblock_50 ?_
    refine ev_iast dX12_unblock_51 dm8_1 ar8_1 (by decide) (by decide) (by decide) ?_
    refine ev_sipush dX12_unblock_52 (by decide) ?_
    refine ev_iconst dX12_unblock_55 ?_
    refine ev_iload_n (j := 1) dX12_unblock_56 rfl rfl ?_
    refine ev_imul dX12_unblock_57 ?_
    refine ev_iadd dX12_unblock_58 ?_
    refine ev_istore_n dX12_unblock_59 rfl (by decide) rfl ?_
    exact ev_sub [1, 0] rfl h12
set_option maxRecDepth 20000 in
set_option maxHeartbeats 4000000 in
theorem bX12_unblock_60 {G : GT} {K : List Value → Mem → Prop} {X : String → Mem → Prop} {M : Mem} {v2 : Int} (h : I32 v2 ∧ I32 (482 + (3 * (M 8 0 1 481))) ∧ ((¬ v2 < (482 + (3 * (M 8 0 1 481))) → Call G 0 0 zX12_remembers [rr G 8 0 0] M (kV (fun M8 => K [iv (M8 8 0 1 481)] M8)) noX) ∧ (v2 < (482 + (3 * (M 8 0 1 481))) → 0 ≤ v2 + 3 ∧ v2 + 3 < 500 ∧ 0 ≤ v2 ∧ v2 < 500 ∧ eX12_unblock G K X 60 [(0, rr G 8 0 0), (2, iv (v2 + 1))] [] (wr M 8 0 1 v2 (M 8 0 1 (v2 + 3)))))) : eX12_unblock G K X 60 [(0, rr G 8 0 0), (2, iv v2)] [] M := by
  show Ex G zX12_unblock 2 0 K X 0 60 [(0, rr G 8 0 0), (2, iv v2)] [] M
  refine ev_iload_n (j := 1) dX12_unblock_60 rfl rfl ?_
  refine ev_sipush dX12_unblock_61 (by decide) ?_
  refine ev_iconst dX12_unblock_64 ?_
  refine ev_aload_n (j := 0) dX12_unblock_65 rfl rfl ?_
  refine ev_get frX12_7 dX12_unblock_66 dm8_0 en8_0 rfl ?_
  refine ev_sipush dX12_unblock_69 (by decide) ?_
  refine ev_iald dX12_unblock_72 dm8_1 ar8_1 (by decide) (by decide) (by decide) ?_
  refine ev_imul dX12_unblock_73 ?_
  refine ev_iadd dX12_unblock_74 ?_
  obtain ⟨s1, s2, h3⟩ := h
  obtain ⟨h4, h5⟩ := h3
  refine ev_icmp_ge 98 dX12_unblock_75 (by decide) s1 s2 (fun c6 => ?_) (fun c6 => ?_)
  · have h7 := h4 c6
    refine ev_aload_n (j := 0) dX12_unblock_98 rfl rfl ?_
    refine ev_callVV (As := []) (st := []) mfX12_remembers mlX12_102 dX12_unblock_99 rfl dm8_0 en8_0 rfl rfl rfl (by decide) (by decide) (by decide) (Nat.le_of_ble_eq_true rfl) (fun _ _ z => z.elim) h7 (fun M8 h9 => ?_)
    refine ev_aload_n (j := 0) dX12_unblock_102 rfl rfl ?_
    refine ev_get frX12_7 dX12_unblock_103 dm8_0 en8_0 rfl ?_
    refine ev_sipush dX12_unblock_106 (by decide) ?_
    refine ev_iald dX12_unblock_109 dm8_1 ar8_1 (by decide) (by decide) (by decide) ?_
    exact ev_iret dX12_unblock_110 (by decide) rfl h9
  · have h11 := h5 c6
    refine ev_aload_n (j := 0) dX12_unblock_78 rfl rfl ?_
    refine ev_get frX12_7 dX12_unblock_79 dm8_0 en8_0 rfl ?_
    refine ev_iload_n (j := 1) dX12_unblock_82 rfl rfl ?_
    refine ev_aload_n (j := 0) dX12_unblock_83 rfl rfl ?_
    refine ev_get frX12_7 dX12_unblock_84 dm8_0 en8_0 rfl ?_
    refine ev_iload_n (j := 1) dX12_unblock_87 rfl rfl ?_
    refine ev_iconst dX12_unblock_88 ?_
    refine ev_iadd dX12_unblock_89 ?_
    obtain ⟨s12, s13, h14⟩ := h11
    refine ev_iald dX12_unblock_90 dm8_1 ar8_1 (by decide) s12 s13 ?_
    obtain ⟨s15, s16, h17⟩ := h14
    refine ev_iast dX12_unblock_91 dm8_1 ar8_1 (by decide) s15 s16 ?_
    refine ev_iinc (j := 1) dX12_unblock_92 rfl (by decide) rfl ?_
    refine ev_goto 60 dX12_unblock_95 (by decide) ?_
    exact ev_sub [1, 0] rfl h17
def eX12_undo (G : GT) (K : List Value → Mem → Prop) (X : String → Mem → Prop) (pc : Nat) (lv : List (Nat × Value)) (st : List Value) (M : Mem) : Prop := Ex G zX12_undo 0 0 K X 0 pc lv st M
set_option maxRecDepth 20000 in
set_option maxHeartbeats 4000000 in
theorem bX12_undo {G : GT} {K : List Value → Mem → Prop} {X : String → Mem → Prop} {M : Mem} (h : I32 (M 8 0 0 5) ∧ ((¬ (M 8 0 0 5) = 0 → eX12_undo G K X 37 [(0, rr G 8 0 0), (1, iv 0)] [] (wr (wr M 8 0 0 7 0) 8 0 0 5 ((M 8 0 0 5) - 1))) ∧ ((M 8 0 0 5) = 0 → K [iv 0] (wr M 8 0 0 7 1)))) : Call G 0 0 zX12_undo [rr G 8 0 0] M K X := by
  refine call_intro (lv := [(0, rr G 8 0 0)]) (by decide) rfl (Nat.le_of_ble_eq_true rfl) rfl ?_
  refine ev_aload_n (j := 0) dX12_undo_0 rfl rfl ?_
  refine ev_aload_n (j := 0) dX12_undo_1 rfl rfl ?_
  refine ev_get frX12_91 dX12_undo_2 dm8_0 en8_0 rfl ?_
  obtain ⟨s1, h2⟩ := h
  obtain ⟨h3, h4⟩ := h2
  refine ev_if_ne 12 dX12_undo_5 (by decide) s1 (fun c5 => ?_) (fun c5 => ?_)
  · have h6 := h3 c5
    refine ev_iconst dX12_undo_12 ?_
    refine ev_put fwX12_84 dX12_undo_13 dm8_0 en8_0 rfl rfl rfl (Nat.le_of_ble_eq_true rfl) ?_
    refine ev_aload_n (j := 0) dX12_undo_16 rfl rfl ?_
    refine ev_get frX12_84 dX12_undo_17 dm8_0 en8_0 rfl ?_
    refine ev_topI (b := 0) rfl ?_
    refine ev_if_le 25 dX12_undo_20 (by decide) ⟨by decide, by decide⟩ (fun _ => ?_) (fun c9 => absurd c9 (by decide))
    refine ev_aload_n (j := 0) dX12_undo_25 rfl rfl ?_
    refine ev_dup dX12_undo_26 rfl ?_
    refine ev_get frX12_91 dX12_undo_27 dm8_0 en8_0 rfl ?_
    refine ev_topI (b := M 8 0 0 5) rfl ?_
    refine ev_iconst dX12_undo_30 ?_
    refine ev_isub dX12_undo_31 ?_
    refine ev_put fwX12_91 dX12_undo_32 dm8_0 en8_0 rfl rfl rfl (Nat.le_of_ble_eq_true rfl) ?_
    refine ev_iconst dX12_undo_35 ?_
    refine ev_istore_n dX12_undo_36 rfl (by decide) rfl ?_
    exact ev_sub [1, 0] rfl h6
  · have h7 := h4 c5
    refine ev_iconst dX12_undo_8 ?_
    refine ev_goto 13 dX12_undo_9 (by decide) ?_
    refine ev_put fwX12_84 dX12_undo_13 dm8_0 en8_0 rfl rfl rfl (Nat.le_of_ble_eq_true rfl) ?_
    refine ev_aload_n (j := 0) dX12_undo_16 rfl rfl ?_
    refine ev_get frX12_84 dX12_undo_17 dm8_0 en8_0 rfl ?_
    refine ev_topI (b := 1) rfl ?_
    refine ev_if_le 25 dX12_undo_20 (by decide) ⟨by decide, by decide⟩ (fun c9 => absurd c9 (by decide)) (fun _ => ?_)
    refine ev_iconst dX12_undo_23 ?_
    exact ev_iret dX12_undo_24 (by decide) rfl h7
set_option maxRecDepth 20000 in
set_option maxHeartbeats 4000000 in
theorem bX12_undo_37 {G : GT} {K : List Value → Mem → Prop} {X : String → Mem → Prop} {M : Mem} {v1 : Int} (h : I32 v1 ∧ ((¬ v1 < 500 → K [iv (M 8 0 0 5)] M) ∧ (v1 < 500 → 0 ≤ (500 * (M 8 0 0 5)) + v1 ∧ (500 * (M 8 0 0 5)) + v1 < 4000 ∧ 0 ≤ v1 ∧ eX12_undo G K X 37 [(0, rr G 8 0 0), (1, iv (v1 + 1))] [] (wr M 8 0 1 v1 (M 8 0 4 ((500 * (M 8 0 0 5)) + v1)))))) : eX12_undo G K X 37 [(0, rr G 8 0 0), (1, iv v1)] [] M := by
  show Ex G zX12_undo 0 0 K X 0 37 [(0, rr G 8 0 0), (1, iv v1)] [] M
  refine ev_iload_n (j := 1) dX12_undo_37 rfl rfl ?_
  refine ev_sipush dX12_undo_38 (by decide) ?_
  obtain ⟨s1, h2⟩ := h
  obtain ⟨h3, h4⟩ := h2
  refine ev_icmp_ge 71 dX12_undo_41 (by decide) s1 ⟨by decide, by decide⟩ (fun c5 => ?_) (fun c5 => ?_)
  · have h6 := h3 c5
    refine ev_aload_n (j := 0) dX12_undo_71 rfl rfl ?_
    refine ev_get frX12_91 dX12_undo_72 dm8_0 en8_0 rfl ?_
    exact ev_iret dX12_undo_75 (by decide) rfl h6
  · have h7 := h4 c5
    refine ev_aload_n (j := 0) dX12_undo_44 rfl rfl ?_
    refine ev_get frX12_7 dX12_undo_45 dm8_0 en8_0 rfl ?_
    refine ev_iload_n (j := 1) dX12_undo_48 rfl rfl ?_
    refine ev_aload_n (j := 0) dX12_undo_49 rfl rfl ?_
    refine ev_get frX12_19 dX12_undo_50 dm8_0 en8_0 rfl ?_
    refine ev_sipush dX12_undo_53 (by decide) ?_
    refine ev_aload_n (j := 0) dX12_undo_56 rfl rfl ?_
    refine ev_get frX12_91 dX12_undo_57 dm8_0 en8_0 rfl ?_
    refine ev_imul dX12_undo_60 ?_
    refine ev_iload_n (j := 1) dX12_undo_61 rfl rfl ?_
    refine ev_iadd dX12_undo_62 ?_
    obtain ⟨s8, s9, h10⟩ := h7
    refine ev_iald dX12_undo_63 dm8_4 ar8_4 (by decide) s8 s9 ?_
    obtain ⟨s11, h12⟩ := h10
    refine ev_iast dX12_undo_64 dm8_1 ar8_1 (by decide) s11 c5 ?_
    refine ev_iinc (j := 1) dX12_undo_65 rfl (by decide) rfl ?_
    refine ev_goto 37 dX12_undo_68 (by decide) ?_
    exact ev_sub [1, 0] rfl h12
def eX12_vehicle (G : GT) (K : List Value → Mem → Prop) (X : String → Mem → Prop) (pc : Nat) (lv : List (Nat × Value)) (st : List Value) (M : Mem) : Prop := Ex G zX12_vehicle 4 0 K X 0 pc lv st M
set_option maxRecDepth 20000 in
set_option maxHeartbeats 4000000 in
theorem bX12_vehicle {G : GT} {K : List Value → Mem → Prop} {X : String → Mem → Prop} {M : Mem} {v1 v2 : Int} (h : Call G 1 0 zX12_isVehicle [rr G 8 0 0, iv v1] M (kI (fun x3 M1 => I32 x3 ∧ ((x3 = 0 → K [iv 0] (wr M1 8 0 0 7 1)) ∧ (¬ x3 = 0 → Call G 0 0 zX12_in [iv v2, iv 0, iv 6] M1 (kI (fun x13 M11 => I32 x13 ∧ ((x13 = 0 → K [iv 0] (wr M11 8 0 0 7 2)) ∧ (¬ x13 = 0 → Call G 3 0 zX12_vehicleTold [rr G 8 0 0, iv v1, iv v2] (wr M11 8 0 0 7 0) (kI (fun x23 M21 => K [iv x23] M21)) noX)))) noX)))) noX) : Call G 4 0 zX12_vehicle [rr G 8 0 0, iv v1, iv v2] M K X := by
  refine call_intro (lv := [(0, rr G 8 0 0), (1, iv v1), (2, iv v2)]) (by decide) rfl (Nat.le_of_ble_eq_true rfl) rfl ?_
  refine ev_aload_n (j := 0) dX12_vehicle_0 rfl rfl ?_
  refine ev_aload_n (j := 0) dX12_vehicle_1 rfl rfl ?_
  refine ev_iload_n (j := 1) dX12_vehicle_2 rfl rfl ?_
  refine ev_callVI (As := [iv v1]) (st := [rr G 8 0 0]) mfX12_isVehicle mlX12_220 dX12_vehicle_3 rfl dm8_0 en8_0 rfl rfl rfl (by decide) (by decide) (by decide) (Nat.le_of_ble_eq_true rfl) (fun _ _ z => z.elim) h (fun x3 M1 h2 => ?_)
  obtain ⟨s4, h5⟩ := h2
  obtain ⟨h6, h7⟩ := h5
  refine ev_if_eq 27 dX12_vehicle_6 (by decide) s4 (fun c8 => ?_) (fun c8 => ?_)
  · have h9 := h6 c8
    refine ev_iconst dX12_vehicle_27 ?_
    refine ev_put fwX12_84 dX12_vehicle_28 dm8_0 en8_0 rfl rfl rfl (Nat.le_of_ble_eq_true rfl) ?_
    refine ev_aload_n (j := 0) dX12_vehicle_31 rfl rfl ?_
    refine ev_get frX12_84 dX12_vehicle_32 dm8_0 en8_0 rfl ?_
    refine ev_topI (b := 1) rfl ?_
    refine ev_if_le 42 dX12_vehicle_35 (by decide) ⟨by decide, by decide⟩ (fun c9 => absurd c9 (by decide)) (fun _ => ?_)
    refine ev_iconst dX12_vehicle_38 ?_
    refine ev_goto 48 dX12_vehicle_39 (by decide) ?_
    exact ev_iret dX12_vehicle_48 (by decide) rfl h9
  · have h10 := h7 c8
    refine ev_iload_n (j := 2) dX12_vehicle_9 rfl rfl ?_
    refine ev_iconst dX12_vehicle_10 ?_
    refine ev_bipush dX12_vehicle_11 (by decide) ?_
    refine ev_callSI (As := [iv v2, iv 0, iv 6]) (st := [rr G 8 0 0]) mfX12_in mlX12_87 dX12_vehicle_13 rfl rfl (by decide) (by decide) (by decide) (Nat.le_of_ble_eq_true rfl) (fun _ _ z => z.elim) h10 (fun x13 M11 h12 => ?_)
    obtain ⟨s14, h15⟩ := h12
    obtain ⟨h16, h17⟩ := h15
    refine ev_if_eq 23 dX12_vehicle_16 (by decide) s14 (fun c18 => ?_) (fun c18 => ?_)
    · have h19 := h16 c18
      refine ev_iconst dX12_vehicle_23 ?_
      refine ev_goto 28 dX12_vehicle_24 (by decide) ?_
      refine ev_put fwX12_84 dX12_vehicle_28 dm8_0 en8_0 rfl rfl rfl (Nat.le_of_ble_eq_true rfl) ?_
      refine ev_aload_n (j := 0) dX12_vehicle_31 rfl rfl ?_
      refine ev_get frX12_84 dX12_vehicle_32 dm8_0 en8_0 rfl ?_
      refine ev_topI (b := 2) rfl ?_
      refine ev_if_le 42 dX12_vehicle_35 (by decide) ⟨by decide, by decide⟩ (fun c9 => absurd c9 (by decide)) (fun _ => ?_)
      refine ev_iconst dX12_vehicle_38 ?_
      refine ev_goto 48 dX12_vehicle_39 (by decide) ?_
      exact ev_iret dX12_vehicle_48 (by decide) rfl h19
    · have h20 := h17 c18
      refine ev_iconst dX12_vehicle_19 ?_
      refine ev_goto 28 dX12_vehicle_20 (by decide) ?_
      refine ev_put fwX12_84 dX12_vehicle_28 dm8_0 en8_0 rfl rfl rfl (Nat.le_of_ble_eq_true rfl) ?_
      refine ev_aload_n (j := 0) dX12_vehicle_31 rfl rfl ?_
      refine ev_get frX12_84 dX12_vehicle_32 dm8_0 en8_0 rfl ?_
      refine ev_topI (b := 0) rfl ?_
      refine ev_if_le 42 dX12_vehicle_35 (by decide) ⟨by decide, by decide⟩ (fun _ => ?_) (fun c9 => absurd c9 (by decide))
      refine ev_aload_n (j := 0) dX12_vehicle_42 rfl rfl ?_
      refine ev_iload_n (j := 1) dX12_vehicle_43 rfl rfl ?_
      refine ev_iload_n (j := 2) dX12_vehicle_44 rfl rfl ?_
      refine ev_callVI (As := [iv v1, iv v2]) (st := []) mfX12_vehicleTold mlX12_245 dX12_vehicle_45 rfl dm8_0 en8_0 rfl rfl rfl (by decide) (by decide) (by decide) (Nat.le_of_ble_eq_true rfl) (fun _ _ z => z.elim) h20 (fun x23 M21 h22 => ?_)
      exact ev_iret dX12_vehicle_48 (by decide) rfl h22
def eX12_vehicleFor (G : GT) (K : List Value → Mem → Prop) (X : String → Mem → Prop) (pc : Nat) (lv : List (Nat × Value)) (st : List Value) (M : Mem) : Prop := Ex G zX12_vehicleFor 4 0 K X 0 pc lv st M
set_option maxRecDepth 20000 in
set_option maxHeartbeats 4000000 in
theorem bX12_vehicleFor {G : GT} {K : List Value → Mem → Prop} {X : String → Mem → Prop} {M : Mem} {v1 : Int} (h : eX12_vehicleFor G K X 4 [(0, rr G 8 0 0), (1, iv v1), (2, iv (-1)), (3, iv 0)] [] M) : Call G 4 0 zX12_vehicleFor [rr G 8 0 0, iv v1] M K X := by
  refine call_intro (lv := [(0, rr G 8 0 0), (1, iv v1)]) (by decide) rfl (Nat.le_of_ble_eq_true rfl) rfl ?_
  refine ev_iconst dX12_vehicleFor_0 ?_
  refine ev_istore_n dX12_vehicleFor_1 rfl (by decide) rfl ?_
  refine ev_iconst dX12_vehicleFor_2 ?_
  refine ev_istore_n dX12_vehicleFor_3 rfl (by decide) rfl ?_
  exact ev_sub [2, 3, 1, 0] rfl h
set_option maxRecDepth 20000 in
set_option maxHeartbeats 4000000 in
theorem bX12_vehicleFor_4 {G : GT} {K : List Value → Mem → Prop} {X : String → Mem → Prop} {M : Mem} {v1 v2 v3 : Int} (h : I32 v3 ∧ I32 (M 8 0 1 160) ∧ ((¬ v3 < (M 8 0 1 160) → eX12_vehicleFor G K X 74 [(0, rr G 8 0 0), (1, iv v1), (2, iv v2), (3, iv ((M 8 0 1 160) - 1))] [] M) ∧ (v3 < (M 8 0 1 160) → 0 ≤ 171 + v3 ∧ 171 + v3 < 500 ∧ I32 (M 8 0 1 (171 + v3)) ∧ ((¬ 0 < (M 8 0 1 (171 + v3)) → eX12_vehicleFor G K X 4 [(0, rr G 8 0 0), (1, iv v1), (2, iv v2), (3, iv (v3 + 1))] [] M) ∧ (0 < (M 8 0 1 (171 + v3)) → Call G 3 0 zX12_reasonFor [rr G 8 0 0, iv v1, iv v3] M (kI (fun x21 M19 => I32 x21 ∧ ((¬ x21 = 0 → eX12_vehicleFor G K X 4 [(0, rr G 8 0 0), (1, iv v1), (2, iv v2), (3, iv (v3 + 1))] [] M19) ∧ (x21 = 0 → I32 v2 ∧ ((v2 < 0 → eX12_vehicleFor G K X 4 [(0, rr G 8 0 0), (1, iv v1), (2, iv v3), (3, iv (v3 + 1))] [] M19) ∧ (¬ v2 < 0 → Call G 2 0 zX12_endOf [rr G 8 0 0, iv v3] M19 (kI (fun x38 M36 => Call G 2 0 zX12_endOf [rr G 8 0 0, iv v2] M36 (kI (fun x41 M39 => I32 x38 ∧ I32 x41 ∧ ((¬ x38 < x41 → eX12_vehicleFor G K X 4 [(0, rr G 8 0 0), (1, iv v1), (2, iv v2), (3, iv (v3 + 1))] [] M39) ∧ (x38 < x41 → eX12_vehicleFor G K X 4 [(0, rr G 8 0 0), (1, iv v1), (2, iv v3), (3, iv (v3 + 1))] [] M39)))) noX)) noX)))))) noX))))) : eX12_vehicleFor G K X 4 [(0, rr G 8 0 0), (1, iv v1), (2, iv v2), (3, iv v3)] [] M := by
  show Ex G zX12_vehicleFor 4 0 K X 0 4 [(0, rr G 8 0 0), (1, iv v1), (2, iv v2), (3, iv v3)] [] M
  refine ev_iload_n (j := 3) dX12_vehicleFor_4 rfl rfl ?_
  refine ev_aload_n (j := 0) dX12_vehicleFor_5 rfl rfl ?_
  refine ev_get frX12_7 dX12_vehicleFor_6 dm8_0 en8_0 rfl ?_
  refine ev_sipush dX12_vehicleFor_9 (by decide) ?_
  refine ev_iald dX12_vehicleFor_12 dm8_1 ar8_1 (by decide) (by decide) (by decide) ?_
  obtain ⟨s1, s2, h3⟩ := h
  obtain ⟨h4, h5⟩ := h3
  refine ev_icmp_ge 63 dX12_vehicleFor_13 (by decide) s1 s2 (fun c6 => ?_) (fun c6 => ?_)
  · have h7 := h4 c6
    refine ev_aload_n (j := 0) dX12_vehicleFor_63 rfl rfl ?_
    refine ev_get frX12_7 dX12_vehicleFor_64 dm8_0 en8_0 rfl ?_
    refine ev_sipush dX12_vehicleFor_67 (by decide) ?_
    refine ev_iald dX12_vehicleFor_70 dm8_1 ar8_1 (by decide) (by decide) (by decide) ?_
    refine ev_iconst dX12_vehicleFor_71 ?_
    refine ev_isub dX12_vehicleFor_72 ?_
    refine ev_istore_n dX12_vehicleFor_73 rfl (by decide) rfl ?_
    exact ev_sub [1, 2, 3, 0] rfl h7
  · have h8 := h5 c6
    refine ev_aload_n (j := 0) dX12_vehicleFor_16 rfl rfl ?_
    refine ev_get frX12_7 dX12_vehicleFor_17 dm8_0 en8_0 rfl ?_
    refine ev_sipush dX12_vehicleFor_20 (by decide) ?_
    refine ev_iload_n (j := 3) dX12_vehicleFor_23 rfl rfl ?_
    refine ev_iadd dX12_vehicleFor_24 ?_
    obtain ⟨s9, s10, h11⟩ := h8
    refine ev_iald dX12_vehicleFor_25 dm8_1 ar8_1 (by decide) s9 s10 ?_
    obtain ⟨s12, h13⟩ := h11
    obtain ⟨h14, h15⟩ := h13
    refine ev_if_le 57 dX12_vehicleFor_26 (by decide) s12 (fun c16 => ?_) (fun c16 => ?_)
    · have h17 := h14 c16
      refine ev_iinc (j := 3) dX12_vehicleFor_57 rfl (by decide) rfl ?_
      refine ev_goto 4 dX12_vehicleFor_60 (by decide) ?_
      exact ev_sub [1, 2, 3, 0] rfl h17
    · have h18 := h15 c16
      refine ev_aload_n (j := 0) dX12_vehicleFor_29 rfl rfl ?_
      refine ev_iload_n (j := 1) dX12_vehicleFor_30 rfl rfl ?_
      refine ev_iload_n (j := 3) dX12_vehicleFor_31 rfl rfl ?_
      refine ev_callVI (As := [iv v1, iv v3]) (st := []) mfX12_reasonFor mlX12_223 dX12_vehicleFor_32 rfl dm8_0 en8_0 rfl rfl rfl (by decide) (by decide) (by decide) (Nat.le_of_ble_eq_true rfl) (fun _ _ z => z.elim) h18 (fun x21 M19 h20 => ?_)
      obtain ⟨s22, h23⟩ := h20
      obtain ⟨h24, h25⟩ := h23
      refine ev_if_ne 57 dX12_vehicleFor_35 (by decide) s22 (fun c26 => ?_) (fun c26 => ?_)
      · have h27 := h24 c26
        refine ev_iinc (j := 3) dX12_vehicleFor_57 rfl (by decide) rfl ?_
        refine ev_goto 4 dX12_vehicleFor_60 (by decide) ?_
        exact ev_sub [1, 2, 3, 0] rfl h27
      · have h28 := h25 c26
        refine ev_iload_n (j := 2) dX12_vehicleFor_38 rfl rfl ?_
        obtain ⟨s29, h30⟩ := h28
        obtain ⟨h31, h32⟩ := h30
        refine ev_if_lt 55 dX12_vehicleFor_39 (by decide) s29 (fun c33 => ?_) (fun c33 => ?_)
        · have h34 := h31 c33
          refine ev_iload_n (j := 3) dX12_vehicleFor_55 rfl rfl ?_
          refine ev_istore_n dX12_vehicleFor_56 rfl (by decide) rfl ?_
          refine ev_iinc (j := 3) dX12_vehicleFor_57 rfl (by decide) rfl ?_
          refine ev_goto 4 dX12_vehicleFor_60 (by decide) ?_
          exact ev_sub [2, 3, 1, 0] rfl h34
        · have h35 := h32 c33
          refine ev_aload_n (j := 0) dX12_vehicleFor_42 rfl rfl ?_
          refine ev_iload_n (j := 3) dX12_vehicleFor_43 rfl rfl ?_
          refine ev_callVI (As := [iv v3]) (st := []) mfX12_endOf mlX12_323 dX12_vehicleFor_44 rfl dm8_0 en8_0 rfl rfl rfl (by decide) (by decide) (by decide) (Nat.le_of_ble_eq_true rfl) (fun _ _ z => z.elim) h35 (fun x38 M36 h37 => ?_)
          refine ev_aload_n (j := 0) dX12_vehicleFor_47 rfl rfl ?_
          refine ev_iload_n (j := 2) dX12_vehicleFor_48 rfl rfl ?_
          refine ev_callVI (As := [iv v2]) (st := [iv x38]) mfX12_endOf mlX12_323 dX12_vehicleFor_49 rfl dm8_0 en8_0 rfl rfl rfl (by decide) (by decide) (by decide) (Nat.le_of_ble_eq_true rfl) (fun _ _ z => z.elim) h37 (fun x41 M39 h40 => ?_)
          obtain ⟨s42, s43, h44⟩ := h40
          obtain ⟨h45, h46⟩ := h44
          refine ev_icmp_ge 57 dX12_vehicleFor_52 (by decide) s42 s43 (fun c47 => ?_) (fun c47 => ?_)
          · have h48 := h45 c47
            refine ev_iinc (j := 3) dX12_vehicleFor_57 rfl (by decide) rfl ?_
            refine ev_goto 4 dX12_vehicleFor_60 (by decide) ?_
            exact ev_sub [1, 2, 3, 0] rfl h48
          · have h49 := h46 c47
            refine ev_iload_n (j := 3) dX12_vehicleFor_55 rfl rfl ?_
            refine ev_istore_n dX12_vehicleFor_56 rfl (by decide) rfl ?_
            refine ev_iinc (j := 3) dX12_vehicleFor_57 rfl (by decide) rfl ?_
            refine ev_goto 4 dX12_vehicleFor_60 (by decide) ?_
            exact ev_sub [2, 3, 1, 0] rfl h49
set_option maxRecDepth 20000 in
set_option maxHeartbeats 4000000 in
theorem bX12_vehicleFor_74 {G : GT} {K : List Value → Mem → Prop} {X : String → Mem → Prop} {M : Mem} {v1 v2 v3 : Int} (h : I32 v3 ∧ ((v3 < 0 → K [iv v2] M) ∧ (¬ v3 < 0 → I32 v2 ∧ ((¬ v2 < 0 → K [iv v2] M) ∧ (v2 < 0 → 0 ≤ 171 + v3 ∧ 171 + v3 < 500 ∧ I32 (M 8 0 1 (171 + v3)) ∧ ((¬ (M 8 0 1 (171 + v3)) = 0 → eX12_vehicleFor G K X 74 [(0, rr G 8 0 0), (1, iv v1), (2, iv v2), (3, iv (v3 + (-1)))] [] M) ∧ ((M 8 0 1 (171 + v3)) = 0 → Call G 0 0 zX12_homeStop [rr G 8 0 0, iv v3] M (kI (fun x27 M25 => Call G 0 0 zX12_first [rr G 8 0 0, iv v1] M25 (kI (fun x30 M28 => I32 x27 ∧ I32 x30 ∧ ((¬ x27 = x30 → eX12_vehicleFor G K X 74 [(0, rr G 8 0 0), (1, iv v1), (2, iv v2), (3, iv (v3 + (-1)))] [] M28) ∧ (x27 = x30 → eX12_vehicleFor G K X 74 [(0, rr G 8 0 0), (1, iv v1), (2, iv v3), (3, iv (v3 + (-1)))] [] M28)))) noX)) noX))))))) : eX12_vehicleFor G K X 74 [(0, rr G 8 0 0), (1, iv v1), (2, iv v2), (3, iv v3)] [] M := by
  show Ex G zX12_vehicleFor 4 0 K X 0 74 [(0, rr G 8 0 0), (1, iv v1), (2, iv v2), (3, iv v3)] [] M
  refine ev_iload_n (j := 3) dX12_vehicleFor_74 rfl rfl ?_
  obtain ⟨s1, h2⟩ := h
  obtain ⟨h3, h4⟩ := h2
  refine ev_if_lt 120 dX12_vehicleFor_75 (by decide) s1 (fun c5 => ?_) (fun c5 => ?_)
  · have h6 := h3 c5
    refine ev_iload_n (j := 2) dX12_vehicleFor_120 rfl rfl ?_
    exact ev_iret dX12_vehicleFor_121 (by decide) rfl h6
  · have h7 := h4 c5
    refine ev_iload_n (j := 2) dX12_vehicleFor_78 rfl rfl ?_
    obtain ⟨s8, h9⟩ := h7
    obtain ⟨h10, h11⟩ := h9
    refine ev_if_ge 120 dX12_vehicleFor_79 (by decide) s8 (fun c12 => ?_) (fun c12 => ?_)
    · have h13 := h10 c12
      refine ev_iload_n (j := 2) dX12_vehicleFor_120 rfl rfl ?_
      exact ev_iret dX12_vehicleFor_121 (by decide) rfl h13
    · have h14 := h11 c12
      refine ev_aload_n (j := 0) dX12_vehicleFor_82 rfl rfl ?_
      refine ev_get frX12_7 dX12_vehicleFor_83 dm8_0 en8_0 rfl ?_
      refine ev_sipush dX12_vehicleFor_86 (by decide) ?_
      refine ev_iload_n (j := 3) dX12_vehicleFor_89 rfl rfl ?_
      refine ev_iadd dX12_vehicleFor_90 ?_
      obtain ⟨s15, s16, h17⟩ := h14
      refine ev_iald dX12_vehicleFor_91 dm8_1 ar8_1 (by decide) s15 s16 ?_
      obtain ⟨s18, h19⟩ := h17
      obtain ⟨h20, h21⟩ := h19
      refine ev_if_ne 112 dX12_vehicleFor_92 (by decide) s18 (fun c22 => ?_) (fun c22 => ?_)
      · have h23 := h20 c22
        refine ev_iload_n (j := 2) dX12_vehicleFor_112 rfl rfl ?_
        refine ev_istore_n dX12_vehicleFor_113 rfl (by decide) rfl ?_
        refine ev_iinc (j := 3) dX12_vehicleFor_114 rfl (by decide) rfl ?_
        refine ev_goto 74 dX12_vehicleFor_117 (by decide) ?_
        exact ev_sub [2, 3, 1, 0] rfl h23
      · have h24 := h21 c22
        refine ev_aload_n (j := 0) dX12_vehicleFor_95 rfl rfl ?_
        refine ev_iload_n (j := 3) dX12_vehicleFor_96 rfl rfl ?_
        refine ev_callVI (As := [iv v3]) (st := []) mfX12_homeStop mlX12_129 dX12_vehicleFor_97 rfl dm8_0 en8_0 rfl rfl rfl (by decide) (by decide) (by decide) (Nat.le_of_ble_eq_true rfl) (fun _ _ z => z.elim) h24 (fun x27 M25 h26 => ?_)
        refine ev_aload_n (j := 0) dX12_vehicleFor_100 rfl rfl ?_
        refine ev_iload_n (j := 1) dX12_vehicleFor_101 rfl rfl ?_
        refine ev_callVI (As := [iv v1]) (st := [iv x27]) mfX12_first mlX12_113 dX12_vehicleFor_102 rfl dm8_0 en8_0 rfl rfl rfl (by decide) (by decide) (by decide) (Nat.le_of_ble_eq_true rfl) (fun _ _ z => z.elim) h26 (fun x30 M28 h29 => ?_)
        obtain ⟨s31, s32, h33⟩ := h29
        obtain ⟨h34, h35⟩ := h33
        refine ev_icmp_ne 112 dX12_vehicleFor_105 (by decide) s31 s32 (fun c36 => ?_) (fun c36 => ?_)
        · have h37 := h34 c36
          refine ev_iload_n (j := 2) dX12_vehicleFor_112 rfl rfl ?_
          refine ev_istore_n dX12_vehicleFor_113 rfl (by decide) rfl ?_
          refine ev_iinc (j := 3) dX12_vehicleFor_114 rfl (by decide) rfl ?_
          refine ev_goto 74 dX12_vehicleFor_117 (by decide) ?_
          exact ev_sub [2, 3, 1, 0] rfl h37
        · have h38 := h35 c36
          refine ev_iload_n (j := 3) dX12_vehicleFor_108 rfl rfl ?_
          refine ev_goto 113 dX12_vehicleFor_109 (by decide) ?_
          refine ev_istore_n dX12_vehicleFor_113 rfl (by decide) rfl ?_
          refine ev_iinc (j := 3) dX12_vehicleFor_114 rfl (by decide) rfl ?_
          refine ev_goto 74 dX12_vehicleFor_117 (by decide) ?_
          exact ev_sub [2, 3, 1, 0] rfl h38
def eX12_vehicleOf (G : GT) (K : List Value → Mem → Prop) (X : String → Mem → Prop) (pc : Nat) (lv : List (Nat × Value)) (st : List Value) (M : Mem) : Prop := Ex G zX12_vehicleOf 1 0 K X 0 pc lv st M
set_option maxRecDepth 20000 in
set_option maxHeartbeats 4000000 in
theorem bX12_vehicleOf {G : GT} {K : List Value → Mem → Prop} {X : String → Mem → Prop} {M : Mem} {v1 : Int} (h : eX12_vehicleOf G K X 2 [(0, rr G 8 0 0), (1, iv v1), (2, iv 0)] [] M) : Call G 1 0 zX12_vehicleOf [rr G 8 0 0, iv v1] M K X := by
  refine call_intro (lv := [(0, rr G 8 0 0), (1, iv v1)]) (by decide) rfl (Nat.le_of_ble_eq_true rfl) rfl ?_
  refine ev_iconst dX12_vehicleOf_0 ?_
  refine ev_istore_n dX12_vehicleOf_1 rfl (by decide) rfl ?_
  exact ev_sub [1, 2, 0] rfl h
set_option maxRecDepth 20000 in
set_option maxHeartbeats 4000000 in
theorem bX12_vehicleOf_2 {G : GT} {K : List Value → Mem → Prop} {X : String → Mem → Prop} {M : Mem} {v1 v2 : Int} (h : I32 v2 ∧ I32 (M 8 0 1 160) ∧ ((¬ v2 < (M 8 0 1 160) → K [iv (-1)] M) ∧ (v2 < (M 8 0 1 160) → eX12_vehicleOf G K X 16 [(0, rr G 8 0 0), (1, iv v1), (2, iv v2), (3, iv 0)] [] M))) : eX12_vehicleOf G K X 2 [(0, rr G 8 0 0), (1, iv v1), (2, iv v2)] [] M := by
  show Ex G zX12_vehicleOf 1 0 K X 0 2 [(0, rr G 8 0 0), (1, iv v1), (2, iv v2)] [] M
  refine ev_iload_n (j := 2) dX12_vehicleOf_2 rfl rfl ?_
  refine ev_aload_n (j := 0) dX12_vehicleOf_3 rfl rfl ?_
  refine ev_get frX12_7 dX12_vehicleOf_4 dm8_0 en8_0 rfl ?_
  refine ev_sipush dX12_vehicleOf_7 (by decide) ?_
  refine ev_iald dX12_vehicleOf_10 dm8_1 ar8_1 (by decide) (by decide) (by decide) ?_
  obtain ⟨s1, s2, h3⟩ := h
  obtain ⟨h4, h5⟩ := h3
  refine ev_icmp_ge 54 dX12_vehicleOf_11 (by decide) s1 s2 (fun c6 => ?_) (fun c6 => ?_)
  · have h7 := h4 c6
    refine ev_iconst dX12_vehicleOf_54 ?_
    exact ev_iret dX12_vehicleOf_55 (by decide) rfl h7
  · have h8 := h5 c6
    refine ev_iconst dX12_vehicleOf_14 ?_
    refine ev_istore_n dX12_vehicleOf_15 rfl (by decide) rfl ?_
    exact ev_sub [1, 2, 3, 0] rfl h8
set_option maxRecDepth 20000 in
set_option maxHeartbeats 4000000 in
theorem bX12_vehicleOf_16 {G : GT} {K : List Value → Mem → Prop} {X : String → Mem → Prop} {M : Mem} {v1 v2 v3 : Int} (h : 0 ≤ 171 + v2 ∧ 171 + v2 < 500 ∧ I32 v3 ∧ I32 (M 8 0 1 (171 + v2)) ∧ ((¬ v3 < (M 8 0 1 (171 + v2)) → eX12_vehicleOf G K X 2 [(0, rr G 8 0 0), (1, iv v1), (2, iv (v2 + 1))] [] M) ∧ (v3 < (M 8 0 1 (171 + v2)) → Call G 0 0 zX12_dutyAt [rr G 8 0 0, iv v2, iv v3] M (kI (fun x14 M12 => I32 x14 ∧ I32 v1 ∧ ((¬ x14 = v1 → eX12_vehicleOf G K X 16 [(0, rr G 8 0 0), (1, iv v1), (2, iv v2), (3, iv (v3 + 1))] [] M12) ∧ (x14 = v1 → K [iv v2] M12)))) noX))) : eX12_vehicleOf G K X 16 [(0, rr G 8 0 0), (1, iv v1), (2, iv v2), (3, iv v3)] [] M := by
  show Ex G zX12_vehicleOf 1 0 K X 0 16 [(0, rr G 8 0 0), (1, iv v1), (2, iv v2), (3, iv v3)] [] M
  refine ev_iload_n (j := 3) dX12_vehicleOf_16 rfl rfl ?_
  refine ev_aload_n (j := 0) dX12_vehicleOf_17 rfl rfl ?_
  refine ev_get frX12_7 dX12_vehicleOf_18 dm8_0 en8_0 rfl ?_
  refine ev_sipush dX12_vehicleOf_21 (by decide) ?_
  refine ev_iload_n (j := 2) dX12_vehicleOf_24 rfl rfl ?_
  refine ev_iadd dX12_vehicleOf_25 ?_
  obtain ⟨s1, s2, h3⟩ := h
  refine ev_iald dX12_vehicleOf_26 dm8_1 ar8_1 (by decide) s1 s2 ?_
  obtain ⟨s4, s5, h6⟩ := h3
  obtain ⟨h7, h8⟩ := h6
  refine ev_icmp_ge 48 dX12_vehicleOf_27 (by decide) s4 s5 (fun c9 => ?_) (fun c9 => ?_)
  · have h10 := h7 c9
    refine ev_iinc (j := 2) dX12_vehicleOf_48 rfl (by decide) rfl ?_
    refine ev_goto 2 dX12_vehicleOf_51 (by decide) ?_
    exact ev_sub [1, 2, 0] rfl h10
  · have h11 := h8 c9
    refine ev_aload_n (j := 0) dX12_vehicleOf_30 rfl rfl ?_
    refine ev_iload_n (j := 2) dX12_vehicleOf_31 rfl rfl ?_
    refine ev_iload_n (j := 3) dX12_vehicleOf_32 rfl rfl ?_
    refine ev_callVI (As := [iv v2, iv v3]) (st := []) mfX12_dutyAt mlX12_126 dX12_vehicleOf_33 rfl dm8_0 en8_0 rfl rfl rfl (by decide) (by decide) (by decide) (Nat.le_of_ble_eq_true rfl) (fun _ _ z => z.elim) h11 (fun x14 M12 h13 => ?_)
    refine ev_iload_n (j := 1) dX12_vehicleOf_36 rfl rfl ?_
    obtain ⟨s15, s16, h17⟩ := h13
    obtain ⟨h18, h19⟩ := h17
    refine ev_icmp_ne 42 dX12_vehicleOf_37 (by decide) s15 s16 (fun c20 => ?_) (fun c20 => ?_)
    · have h21 := h18 c20
      refine ev_iinc (j := 3) dX12_vehicleOf_42 rfl (by decide) rfl ?_
      refine ev_goto 16 dX12_vehicleOf_45 (by decide) ?_
      exact ev_sub [1, 2, 3, 0] rfl h21
    · have h22 := h19 c20
      refine ev_iload_n (j := 2) dX12_vehicleOf_40 rfl rfl ?_
      exact ev_iret dX12_vehicleOf_41 (by decide) rfl h22
def eX12_vehicleTold (G : GT) (K : List Value → Mem → Prop) (X : String → Mem → Prop) (pc : Nat) (lv : List (Nat × Value)) (st : List Value) (M : Mem) : Prop := Ex G zX12_vehicleTold 3 0 K X 0 pc lv st M
set_option maxRecDepth 20000 in
set_option maxHeartbeats 4000000 in
theorem bX12_vehicleTold {G : GT} {K : List Value → Mem → Prop} {X : String → Mem → Prop} {M : Mem} {v1 v2 : Int} (h : I32 v2 ∧ ((v2 = 0 → 0 ≤ 161 + v1 ∧ 161 + v1 < 500 ∧ K [iv (M 8 0 1 (161 + v1))] M) ∧ (v2 = 1 → 0 ≤ 171 + v1 ∧ 171 + v1 < 500 ∧ K [iv (M 8 0 1 (171 + v1))] M) ∧ (v2 = 2 → Call G 2 0 zX12_minutesOf [rr G 8 0 0, iv v1, iv 0] M (kI (fun x21 M19 => K [iv x21] M19)) noX) ∧ (v2 = 3 → Call G 2 0 zX12_minutesOf [rr G 8 0 0, iv v1, iv 1] M (kI (fun x25 M23 => K [iv x25] M23)) noX) ∧ (v2 = 4 → Call G 0 0 zX12_rowPlace [rr G 8 0 0, iv v1] M (kI (fun x29 M27 => K [iv x29] M27)) noX) ∧ (v2 = 5 → Call G 1 0 zX12_boxed [rr G 8 0 0, iv v1] M (kI (fun x33 M31 => K [iv x33] M31)) noX) ∧ ((v2 < 0 ∨ 5 < v2) → 0 ≤ 171 + v1 ∧ 171 + v1 < 500 ∧ I32 (M 8 0 1 (171 + v1)) ∧ ((¬ (M 8 0 1 (171 + v1)) = 0 → Call G 0 0 zX12_dutyAt [rr G 8 0 0, iv v1, iv ((M 8 0 1 (171 + v1)) - 1)] M (kI (fun x46 M44 => Call G 0 0 zX12_last [rr G 8 0 0, iv x46] M44 (kI (fun x49 M47 => K [iv x49] M47)) noX)) noX) ∧ ((M 8 0 1 (171 + v1)) = 0 → Call G 0 0 zX12_homeStop [rr G 8 0 0, iv v1] M (kI (fun x53 M51 => K [iv x53] M51)) noX))))) : Call G 3 0 zX12_vehicleTold [rr G 8 0 0, iv v1, iv v2] M K X := by
  refine call_intro (lv := [(0, rr G 8 0 0), (1, iv v1), (2, iv v2)]) (by decide) rfl (Nat.le_of_ble_eq_true rfl) rfl ?_
  refine ev_iload_n (j := 2) dX12_vehicleTold_0 rfl rfl ?_
  obtain ⟨s1, h2⟩ := h
  obtain ⟨h3, h4, h5, h6, h7, h8, h9⟩ := h2
  refine ev_tsw dX12_vehicleTold_1 s1 (by decide) (fun j9 o9 hj9 ha9 t9 ht9 _ => ?_) (fun j9 o9 hj9 => ?_) (fun c9 t9 ht9 => ?_) (by decide)
  · have hb9 : j9 < 6 := (Array.getElem?_eq_some_iff.mp hj9).1
    rcases (show j9 = 0 ∨ j9 = 1 ∨ j9 = 2 ∨ j9 = 3 ∨ j9 = 4 ∨ j9 = 5 by omega) with rfl | rfl | rfl | rfl | rfl | rfl
    · obtain rfl : o9 = (39 : Int) := (Option.some.inj (show some (39 : Int) = some o9 from hj9)).symm
      obtain rfl : t9 = 40 := by omega
      have h10 := h3 (by omega)
      refine ev_aload_n (j := 0) dX12_vehicleTold_40 rfl rfl ?_
      refine ev_get frX12_7 dX12_vehicleTold_41 dm8_0 en8_0 rfl ?_
      refine ev_sipush dX12_vehicleTold_44 (by decide) ?_
      refine ev_iload_n (j := 1) dX12_vehicleTold_47 rfl rfl ?_
      refine ev_iadd dX12_vehicleTold_48 ?_
      obtain ⟨s11, s12, h13⟩ := h10
      refine ev_iald dX12_vehicleTold_49 dm8_1 ar8_1 (by decide) s11 s12 ?_
      exact ev_iret dX12_vehicleTold_50 (by decide) rfl h13
    · obtain rfl : o9 = (50 : Int) := (Option.some.inj (show some (50 : Int) = some o9 from hj9)).symm
      obtain rfl : t9 = 51 := by omega
      have h14 := h4 (by omega)
      refine ev_aload_n (j := 0) dX12_vehicleTold_51 rfl rfl ?_
      refine ev_get frX12_7 dX12_vehicleTold_52 dm8_0 en8_0 rfl ?_
      refine ev_sipush dX12_vehicleTold_55 (by decide) ?_
      refine ev_iload_n (j := 1) dX12_vehicleTold_58 rfl rfl ?_
      refine ev_iadd dX12_vehicleTold_59 ?_
      obtain ⟨s15, s16, h17⟩ := h14
      refine ev_iald dX12_vehicleTold_60 dm8_1 ar8_1 (by decide) s15 s16 ?_
      exact ev_iret dX12_vehicleTold_61 (by decide) rfl h17
    · obtain rfl : o9 = (61 : Int) := (Option.some.inj (show some (61 : Int) = some o9 from hj9)).symm
      obtain rfl : t9 = 62 := by omega
      have h18 := h5 (by omega)
      refine ev_aload_n (j := 0) dX12_vehicleTold_62 rfl rfl ?_
      refine ev_iload_n (j := 1) dX12_vehicleTold_63 rfl rfl ?_
      refine ev_iconst dX12_vehicleTold_64 ?_
      refine ev_callVI (As := [iv v1, iv 0]) (st := []) mfX12_minutesOf mlX12_235 dX12_vehicleTold_65 rfl dm8_0 en8_0 rfl rfl rfl (by decide) (by decide) (by decide) (Nat.le_of_ble_eq_true rfl) (fun _ _ z => z.elim) h18 (fun x21 M19 h20 => ?_)
      exact ev_iret dX12_vehicleTold_68 (by decide) rfl h20
    · obtain rfl : o9 = (68 : Int) := (Option.some.inj (show some (68 : Int) = some o9 from hj9)).symm
      obtain rfl : t9 = 69 := by omega
      have h22 := h6 (by omega)
      refine ev_aload_n (j := 0) dX12_vehicleTold_69 rfl rfl ?_
      refine ev_iload_n (j := 1) dX12_vehicleTold_70 rfl rfl ?_
      refine ev_iconst dX12_vehicleTold_71 ?_
      refine ev_callVI (As := [iv v1, iv 1]) (st := []) mfX12_minutesOf mlX12_235 dX12_vehicleTold_72 rfl dm8_0 en8_0 rfl rfl rfl (by decide) (by decide) (by decide) (Nat.le_of_ble_eq_true rfl) (fun _ _ z => z.elim) h22 (fun x25 M23 h24 => ?_)
      exact ev_iret dX12_vehicleTold_75 (by decide) rfl h24
    · obtain rfl : o9 = (75 : Int) := (Option.some.inj (show some (75 : Int) = some o9 from hj9)).symm
      obtain rfl : t9 = 76 := by omega
      have h26 := h7 (by omega)
      refine ev_aload_n (j := 0) dX12_vehicleTold_76 rfl rfl ?_
      refine ev_iload_n (j := 1) dX12_vehicleTold_77 rfl rfl ?_
      refine ev_callVI (As := [iv v1]) (st := []) mfX12_rowPlace mlX12_239 dX12_vehicleTold_78 rfl dm8_0 en8_0 rfl rfl rfl (by decide) (by decide) (by decide) (Nat.le_of_ble_eq_true rfl) (fun _ _ z => z.elim) h26 (fun x29 M27 h28 => ?_)
      exact ev_iret dX12_vehicleTold_81 (by decide) rfl h28
    · obtain rfl : o9 = (81 : Int) := (Option.some.inj (show some (81 : Int) = some o9 from hj9)).symm
      obtain rfl : t9 = 82 := by omega
      have h30 := h8 (by omega)
      refine ev_aload_n (j := 0) dX12_vehicleTold_82 rfl rfl ?_
      refine ev_iload_n (j := 1) dX12_vehicleTold_83 rfl rfl ?_
      refine ev_callVI (As := [iv v1]) (st := []) mfX12_boxed mlX12_242 dX12_vehicleTold_84 rfl dm8_0 en8_0 rfl rfl rfl (by decide) (by decide) (by decide) (Nat.le_of_ble_eq_true rfl) (fun _ _ z => z.elim) h30 (fun x33 M31 h32 => ?_)
      exact ev_iret dX12_vehicleTold_87 (by decide) rfl h32
  · have hb9 : j9 < 6 := (Array.getElem?_eq_some_iff.mp hj9).1
    rcases (show j9 = 0 ∨ j9 = 1 ∨ j9 = 2 ∨ j9 = 3 ∨ j9 = 4 ∨ j9 = 5 by omega) with rfl | rfl | rfl | rfl | rfl | rfl <;> (have hj8 := Option.some.inj hj9; revert hj8; intro hj8; subst hj8; decide)
  · obtain rfl : t9 = 88 := by omega
    have h34 := h9 c9
    refine ev_aload_n (j := 0) dX12_vehicleTold_88 rfl rfl ?_
    refine ev_get frX12_7 dX12_vehicleTold_89 dm8_0 en8_0 rfl ?_
    refine ev_sipush dX12_vehicleTold_92 (by decide) ?_
    refine ev_iload_n (j := 1) dX12_vehicleTold_95 rfl rfl ?_
    refine ev_iadd dX12_vehicleTold_96 ?_
    obtain ⟨s35, s36, h37⟩ := h34
    refine ev_iald dX12_vehicleTold_97 dm8_1 ar8_1 (by decide) s35 s36 ?_
    obtain ⟨s38, h39⟩ := h37
    obtain ⟨h40, h41⟩ := h39
    refine ev_if_ne 109 dX12_vehicleTold_98 (by decide) s38 (fun c42 => ?_) (fun c42 => ?_)
    · have h43 := h40 c42
      refine ev_aload_n (j := 0) dX12_vehicleTold_109 rfl rfl ?_
      refine ev_aload_n (j := 0) dX12_vehicleTold_110 rfl rfl ?_
      refine ev_iload_n (j := 1) dX12_vehicleTold_111 rfl rfl ?_
      refine ev_aload_n (j := 0) dX12_vehicleTold_112 rfl rfl ?_
      refine ev_get frX12_7 dX12_vehicleTold_113 dm8_0 en8_0 rfl ?_
      refine ev_sipush dX12_vehicleTold_116 (by decide) ?_
      refine ev_iload_n (j := 1) dX12_vehicleTold_119 rfl rfl ?_
      refine ev_iadd dX12_vehicleTold_120 ?_
      refine ev_iald dX12_vehicleTold_121 dm8_1 ar8_1 (by decide) s35 s36 ?_
      refine ev_iconst dX12_vehicleTold_122 ?_
      refine ev_isub dX12_vehicleTold_123 ?_
      refine ev_callVI (As := [iv v1, iv ((M 8 0 1 (171 + v1)) - 1)]) (st := [rr G 8 0 0]) mfX12_dutyAt mlX12_126 dX12_vehicleTold_124 rfl dm8_0 en8_0 rfl rfl rfl (by decide) (by decide) (by decide) (Nat.le_of_ble_eq_true rfl) (fun _ _ z => z.elim) h43 (fun x46 M44 h45 => ?_)
      refine ev_callVI (As := [iv x46]) (st := []) mfX12_last mlX12_116 dX12_vehicleTold_127 rfl dm8_0 en8_0 rfl rfl rfl (by decide) (by decide) (by decide) (Nat.le_of_ble_eq_true rfl) (fun _ _ z => z.elim) h45 (fun x49 M47 h48 => ?_)
      exact ev_iret dX12_vehicleTold_130 (by decide) rfl h48
    · have h50 := h41 c42
      refine ev_aload_n (j := 0) dX12_vehicleTold_101 rfl rfl ?_
      refine ev_iload_n (j := 1) dX12_vehicleTold_102 rfl rfl ?_
      refine ev_callVI (As := [iv v1]) (st := []) mfX12_homeStop mlX12_129 dX12_vehicleTold_103 rfl dm8_0 en8_0 rfl rfl rfl (by decide) (by decide) (by decide) (Nat.le_of_ble_eq_true rfl) (fun _ _ z => z.elim) h50 (fun x53 M51 h52 => ?_)
      refine ev_goto 130 dX12_vehicleTold_106 (by decide) ?_
      exact ev_iret dX12_vehicleTold_130 (by decide) rfl h52
def eX12_waysBy (G : GT) (K : List Value → Mem → Prop) (X : String → Mem → Prop) (pc : Nat) (lv : List (Nat × Value)) (st : List Value) (M : Mem) : Prop := Ex G zX12_waysBy 4 0 K X 0 pc lv st M
set_option maxRecDepth 20000 in
set_option maxHeartbeats 4000000 in
theorem bX12_waysBy {G : GT} {K : List Value → Mem → Prop} {X : String → Mem → Prop} {M : Mem} {v1 : Int} (h : eX12_waysBy G K X 2 [(0, rr G 8 0 0), (1, iv v1), (2, iv 0)] [] M) : Call G 4 0 zX12_waysBy [rr G 8 0 0, iv v1] M K X := by
  refine call_intro (lv := [(0, rr G 8 0 0), (1, iv v1)]) (by decide) rfl (Nat.le_of_ble_eq_true rfl) rfl ?_
  refine ev_iconst dX12_waysBy_0 ?_
  refine ev_istore_n dX12_waysBy_1 rfl (by decide) rfl ?_
  exact ev_sub [1, 2, 0] rfl h
set_option maxRecDepth 20000 in
set_option maxHeartbeats 4000000 in
theorem bX12_waysBy_2 {G : GT} {K : List Value → Mem → Prop} {X : String → Mem → Prop} {M : Mem} {v1 v2 : Int} (h : I32 v2 ∧ I32 (M 8 0 1 37) ∧ ((¬ v2 < (M 8 0 1 37) → eX12_waysBy G K X 60 [(0, rr G 8 0 0), (1, iv v1), (2, iv 1)] [] M) ∧ (v2 < (M 8 0 1 37) → Call G 0 0 zX12_isActive [rr G 8 0 0, iv v2] M (kI (fun x11 M9 => I32 x11 ∧ ((x11 = 0 → 0 ≤ v2 ∧ v2 < 30 ∧ eX12_waysBy G K X 2 [(0, rr G 8 0 0), (1, iv v1), (2, iv (v2 + 1))] [] (wr (wr M9 8 0 19 v2 1000000) 8 0 20 v2 1000000)) ∧ (¬ x11 = 0 → 0 ≤ v2 ∧ v2 < 30 ∧ I32 (M9 8 0 18 v2) ∧ ((¬ (M9 8 0 18 v2) < 0 → eX12_waysBy G K X 2 [(0, rr G 8 0 0), (1, iv v1), (2, iv (v2 + 1))] [] (wr (wr M9 8 0 19 v2 1000000) 8 0 20 v2 1000000)) ∧ ((M9 8 0 18 v2) < 0 → eX12_waysBy G K X 2 [(0, rr G 8 0 0), (1, iv v1), (2, iv (v2 + 1))] [] (wr (wr M9 8 0 19 v2 0) 8 0 20 v2 1000000))))))) noX))) : eX12_waysBy G K X 2 [(0, rr G 8 0 0), (1, iv v1), (2, iv v2)] [] M := by
  show Ex G zX12_waysBy 4 0 K X 0 2 [(0, rr G 8 0 0), (1, iv v1), (2, iv v2)] [] M
  refine ev_iload_n (j := 2) dX12_waysBy_2 rfl rfl ?_
  refine ev_aload_n (j := 0) dX12_waysBy_3 rfl rfl ?_
  refine ev_get frX12_7 dX12_waysBy_4 dm8_0 en8_0 rfl ?_
  refine ev_bipush dX12_waysBy_7 (by decide) ?_
  refine ev_iald dX12_waysBy_9 dm8_1 ar8_1 (by decide) (by decide) (by decide) ?_
  obtain ⟨s1, s2, h3⟩ := h
  obtain ⟨h4, h5⟩ := h3
  refine ev_icmp_ge 58 dX12_waysBy_10 (by decide) s1 s2 (fun c6 => ?_) (fun c6 => ?_)
  · have h7 := h4 c6
    refine ev_iconst dX12_waysBy_58 ?_
    refine ev_istore_n dX12_waysBy_59 rfl (by decide) rfl ?_
    exact ev_sub [1, 2, 0] rfl h7
  · have h8 := h5 c6
    refine ev_aload_n (j := 0) dX12_waysBy_13 rfl rfl ?_
    refine ev_get frX12_65 dX12_waysBy_14 dm8_0 en8_0 rfl ?_
    refine ev_iload_n (j := 2) dX12_waysBy_17 rfl rfl ?_
    refine ev_aload_n (j := 0) dX12_waysBy_18 rfl rfl ?_
    refine ev_iload_n (j := 2) dX12_waysBy_19 rfl rfl ?_
    refine ev_callVI (As := [iv v2]) (st := [iv v2, rr G 8 0 19]) mfX12_isActive mlX12_149 dX12_waysBy_20 rfl dm8_0 en8_0 rfl rfl rfl (by decide) (by decide) (by decide) (Nat.le_of_ble_eq_true rfl) (fun _ _ z => z.elim) h8 (fun x11 M9 h10 => ?_)
    obtain ⟨s12, h13⟩ := h10
    obtain ⟨h14, h15⟩ := h13
    refine ev_if_eq 39 dX12_waysBy_23 (by decide) s12 (fun c16 => ?_) (fun c16 => ?_)
    · have h17 := h14 c16
      refine ev_ldcw (v9 := 1000000) kcX12_313 dX12_waysBy_39 rfl ?_
      obtain ⟨s18, s19, h20⟩ := h17
      refine ev_iast dX12_waysBy_42 dm8_19 ar8_19 (by decide) s18 s19 ?_
      refine ev_aload_n (j := 0) dX12_waysBy_43 rfl rfl ?_
      refine ev_get frX12_68 dX12_waysBy_44 dm8_0 en8_0 rfl ?_
      refine ev_iload_n (j := 2) dX12_waysBy_47 rfl rfl ?_
      refine ev_ldcw (v9 := 1000000) kcX12_313 dX12_waysBy_48 rfl ?_
      refine ev_iast dX12_waysBy_51 dm8_20 ar8_20 (by decide) s18 s19 ?_
      refine ev_iinc (j := 2) dX12_waysBy_52 rfl (by decide) rfl ?_
      refine ev_goto 2 dX12_waysBy_55 (by decide) ?_
      exact ev_sub [1, 2, 0] rfl h20
    · have h21 := h15 c16
      refine ev_aload_n (j := 0) dX12_waysBy_26 rfl rfl ?_
      refine ev_get frX12_62 dX12_waysBy_27 dm8_0 en8_0 rfl ?_
      refine ev_iload_n (j := 2) dX12_waysBy_30 rfl rfl ?_
      obtain ⟨s22, s23, h24⟩ := h21
      refine ev_iald dX12_waysBy_31 dm8_18 ar8_18 (by decide) s22 s23 ?_
      obtain ⟨s25, h26⟩ := h24
      obtain ⟨h27, h28⟩ := h26
      refine ev_if_ge 39 dX12_waysBy_32 (by decide) s25 (fun c29 => ?_) (fun c29 => ?_)
      · have h30 := h27 c29
        refine ev_ldcw (v9 := 1000000) kcX12_313 dX12_waysBy_39 rfl ?_
        refine ev_iast dX12_waysBy_42 dm8_19 ar8_19 (by decide) s22 s23 ?_
        refine ev_aload_n (j := 0) dX12_waysBy_43 rfl rfl ?_
        refine ev_get frX12_68 dX12_waysBy_44 dm8_0 en8_0 rfl ?_
        refine ev_iload_n (j := 2) dX12_waysBy_47 rfl rfl ?_
        refine ev_ldcw (v9 := 1000000) kcX12_313 dX12_waysBy_48 rfl ?_
        refine ev_iast dX12_waysBy_51 dm8_20 ar8_20 (by decide) s22 s23 ?_
        refine ev_iinc (j := 2) dX12_waysBy_52 rfl (by decide) rfl ?_
        refine ev_goto 2 dX12_waysBy_55 (by decide) ?_
        exact ev_sub [1, 2, 0] rfl h30
      · have h31 := h28 c29
        refine ev_iconst dX12_waysBy_35 ?_
        refine ev_goto 42 dX12_waysBy_36 (by decide) ?_
        refine ev_iast dX12_waysBy_42 dm8_19 ar8_19 (by decide) s22 s23 ?_
        refine ev_aload_n (j := 0) dX12_waysBy_43 rfl rfl ?_
        refine ev_get frX12_68 dX12_waysBy_44 dm8_0 en8_0 rfl ?_
        refine ev_iload_n (j := 2) dX12_waysBy_47 rfl rfl ?_
        refine ev_ldcw (v9 := 1000000) kcX12_313 dX12_waysBy_48 rfl ?_
        refine ev_iast dX12_waysBy_51 dm8_20 ar8_20 (by decide) s22 s23 ?_
        refine ev_iinc (j := 2) dX12_waysBy_52 rfl (by decide) rfl ?_
        refine ev_goto 2 dX12_waysBy_55 (by decide) ?_
        exact ev_sub [1, 2, 0] rfl h31
set_option maxRecDepth 20000 in
set_option maxHeartbeats 4000000 in
theorem bX12_waysBy_60 {G : GT} {K : List Value → Mem → Prop} {X : String → Mem → Prop} {M : Mem} {v1 v2 : Int} (h : I32 v2 ∧ ((v2 = 0 → K [] M) ∧ (¬ v2 = 0 → eX12_waysBy G K X 68 [(0, rr G 8 0 0), (1, iv v1), (2, iv 0), (3, iv 0)] [] M))) : eX12_waysBy G K X 60 [(0, rr G 8 0 0), (1, iv v1), (2, iv v2)] [] M := by
  show Ex G zX12_waysBy 4 0 K X 0 60 [(0, rr G 8 0 0), (1, iv v1), (2, iv v2)] [] M
  refine ev_iload_n (j := 2) dX12_waysBy_60 rfl rfl ?_
  obtain ⟨s1, h2⟩ := h
  obtain ⟨h3, h4⟩ := h2
  refine ev_if_eq 246 dX12_waysBy_61 (by decide) s1 (fun c5 => ?_) (fun c5 => ?_)
  · have h6 := h3 c5
    exact ev_vret dX12_waysBy_246 (by decide) rfl h6
  · have h7 := h4 c5
    refine ev_iconst dX12_waysBy_64 ?_
    refine ev_istore_n dX12_waysBy_65 rfl (by decide) rfl ?_
    refine ev_iconst dX12_waysBy_66 ?_
    refine ev_istore_n dX12_waysBy_67 rfl (by decide) rfl ?_
    exact ev_sub [2, 3, 1, 0] rfl h7
set_option maxRecDepth 20000 in
set_option maxHeartbeats 4000000 in
theorem bX12_waysBy_68 {G : GT} {K : List Value → Mem → Prop} {X : String → Mem → Prop} {M : Mem} {v1 v2 v3 : Int} (h : I32 v3 ∧ I32 (M 8 0 1 37) ∧ ((¬ v3 < (M 8 0 1 37) → eX12_waysBy G K X 60 [(0, rr G 8 0 0), (1, iv v1), (2, iv v2)] [] M) ∧ (v3 < (M 8 0 1 37) → eX12_waysBy G K X 82 [(0, rr G 8 0 0), (1, iv v1), (2, iv v2), (3, iv v3), (4, iv 0)] [] M))) : eX12_waysBy G K X 68 [(0, rr G 8 0 0), (1, iv v1), (2, iv v2), (3, iv v3)] [] M := by
  show Ex G zX12_waysBy 4 0 K X 0 68 [(0, rr G 8 0 0), (1, iv v1), (2, iv v2), (3, iv v3)] [] M
  refine ev_iload_n (j := 3) dX12_waysBy_68 rfl rfl ?_
  refine ev_aload_n (j := 0) dX12_waysBy_69 rfl rfl ?_
  refine ev_get frX12_7 dX12_waysBy_70 dm8_0 en8_0 rfl ?_
  refine ev_bipush dX12_waysBy_73 (by decide) ?_
  refine ev_iald dX12_waysBy_75 dm8_1 ar8_1 (by decide) (by decide) (by decide) ?_
  obtain ⟨s1, s2, h3⟩ := h
  obtain ⟨h4, h5⟩ := h3
  refine ev_icmp_ge 243 dX12_waysBy_76 (by decide) s1 s2 (fun c6 => ?_) (fun c6 => ?_)
  · have h7 := h4 c6
    refine ev_goto 60 dX12_waysBy_243 (by decide) ?_
    exact ev_sub [0, 1, 2] rfl h7
  · have h8 := h5 c6
    refine ev_iconst dX12_waysBy_79 ?_
    refine ev_istore dX12_waysBy_80 (by decide) rfl ?_
    exact ev_sub [1, 2, 3, 4, 0] rfl h8
set_option maxRecDepth 20000 in
set_option maxHeartbeats 4000000 in
theorem bX12_waysBy_82 {G : GT} {K : List Value → Mem → Prop} {X : String → Mem → Prop} {M : Mem} {v1 v2 v3 v4 : Int} (h : I32 v4 ∧ I32 (M 8 0 1 37) ∧ ((¬ v4 < (M 8 0 1 37) → eX12_waysBy G K X 68 [(0, rr G 8 0 0), (1, iv v1), (2, iv v2), (3, iv (v3 + 1))] [] M) ∧ (v4 < (M 8 0 1 37) → 0 ≤ v3 ∧ v3 < 30 ∧ I32 (M 8 0 19 v3) ∧ ((¬ (M 8 0 19 v3) < 1000000 → eX12_waysBy G K X 68 [(0, rr G 8 0 0), (1, iv v1), (2, iv v2), (3, iv (v3 + 1))] [] M) ∧ ((M 8 0 19 v3) < 1000000 → Call G 3 0 zX12_links [rr G 8 0 0, iv v3, iv v4] M (kI (fun x21 M19 => I32 x21 ∧ ((x21 = 0 → eX12_waysBy G K X 82 [(0, rr G 8 0 0), (1, iv v1), (2, iv v2), (3, iv v3), (4, iv (v4 + 1))] [] M19) ∧ (¬ x21 = 0 → I32 (M19 8 0 18 v3) ∧ (((M19 8 0 18 v3) = v4 → eX12_waysBy G K X 82 [(0, rr G 8 0 0), (1, iv v1), (2, iv v2), (3, iv v3), (4, iv (v4 + 1))] [] M19) ∧ (¬ (M19 8 0 18 v3) = v4 → Call G 2 0 zX12_pairCost [rr G 8 0 0, iv v3, iv v4, iv v1] M19 (kI (fun x38 M36 => 0 ≤ v4 ∧ v4 < 30 ∧ I32 ((M19 8 0 19 v3) + x38) ∧ I32 (M36 8 0 20 v4) ∧ ((((M19 8 0 19 v3) + x38) < (M36 8 0 20 v4) → Call G 2 0 zX12_pairCost [rr G 8 0 0, iv v3, iv v4, iv v1] M36 (kI (fun x51 M49 => I32 (M49 8 0 14 v4) ∧ (((M49 8 0 14 v4) < 0 → eX12_waysBy G K X 82 [(0, rr G 8 0 0), (1, iv v1), (2, iv 1), (3, iv v3), (4, iv (v4 + 1))] [] (wr (wr M49 8 0 20 v4 ((M36 8 0 19 v3) + x51)) 8 0 21 v4 v3)) ∧ (¬ (M49 8 0 14 v4) < 0 → Call G 2 0 zX12_pairCost [rr G 8 0 0, iv (M49 8 0 14 v4), iv v4, iv v1] (wr (wr M49 8 0 20 v4 ((M36 8 0 19 v3) + x51)) 8 0 21 v4 v3) (kI (fun x61 M59 => 0 ≤ M49 8 0 14 v4 ∧ M49 8 0 14 v4 < 30 ∧ ∀ M65 : Mem, M65 = wr M59 8 0 19 (M49 8 0 14 v4) (((wr M49 8 0 20 v4 ((M36 8 0 19 v3) + x51)) 8 0 20 v4) - x61) → eX12_waysBy G K X 82 [(0, rr G 8 0 0), (1, iv v1), (2, iv 1), (3, iv v3), (4, iv (v4 + 1))] [] M65)) noX)))) noX) ∧ (¬ ((M19 8 0 19 v3) + x38) < (M36 8 0 20 v4) → eX12_waysBy G K X 82 [(0, rr G 8 0 0), (1, iv v1), (2, iv v2), (3, iv v3), (4, iv (v4 + 1))] [] M36)))) noX)))))) noX))))) : eX12_waysBy G K X 82 [(0, rr G 8 0 0), (1, iv v1), (2, iv v2), (3, iv v3), (4, iv v4)] [] M := by
  show Ex G zX12_waysBy 4 0 K X 0 82 [(0, rr G 8 0 0), (1, iv v1), (2, iv v2), (3, iv v3), (4, iv v4)] [] M
  refine ev_iload (j := 4) dX12_waysBy_82 rfl ?_
  refine ev_aload_n (j := 0) dX12_waysBy_84 rfl rfl ?_
  refine ev_get frX12_7 dX12_waysBy_85 dm8_0 en8_0 rfl ?_
  refine ev_bipush dX12_waysBy_88 (by decide) ?_
  refine ev_iald dX12_waysBy_90 dm8_1 ar8_1 (by decide) (by decide) (by decide) ?_
  obtain ⟨s1, s2, h3⟩ := h
  obtain ⟨h4, h5⟩ := h3
  refine ev_icmp_ge 237 dX12_waysBy_91 (by decide) s1 s2 (fun c6 => ?_) (fun c6 => ?_)
  · have h7 := h4 c6
    refine ev_iinc (j := 3) dX12_waysBy_237 rfl (by decide) rfl ?_
    refine ev_goto 68 dX12_waysBy_240 (by decide) ?_
    exact ev_sub [1, 2, 3, 0] rfl h7
  · have h8 := h5 c6
    refine ev_aload_n (j := 0) dX12_waysBy_94 rfl rfl ?_
    refine ev_get frX12_65 dX12_waysBy_95 dm8_0 en8_0 rfl ?_
    refine ev_iload_n (j := 3) dX12_waysBy_98 rfl rfl ?_
    obtain ⟨s9, s10, h11⟩ := h8
    refine ev_iald dX12_waysBy_99 dm8_19 ar8_19 (by decide) s9 s10 ?_
    refine ev_ldcw (v9 := 1000000) kcX12_313 dX12_waysBy_100 rfl ?_
    obtain ⟨s12, h13⟩ := h11
    obtain ⟨h14, h15⟩ := h13
    refine ev_icmp_ge 237 dX12_waysBy_103 (by decide) s12 ⟨by decide, by decide⟩ (fun c16 => ?_) (fun c16 => ?_)
    · have h17 := h14 c16
      refine ev_iinc (j := 3) dX12_waysBy_237 rfl (by decide) rfl ?_
      refine ev_goto 68 dX12_waysBy_240 (by decide) ?_
      exact ev_sub [1, 2, 3, 0] rfl h17
    · have h18 := h15 c16
      refine ev_aload_n (j := 0) dX12_waysBy_106 rfl rfl ?_
      refine ev_iload_n (j := 3) dX12_waysBy_107 rfl rfl ?_
      refine ev_iload (j := 4) dX12_waysBy_108 rfl ?_
      refine ev_callVI (As := [iv v3, iv v4]) (st := []) mfX12_links mlX12_298 dX12_waysBy_110 rfl dm8_0 en8_0 rfl rfl rfl (by decide) (by decide) (by decide) (Nat.le_of_ble_eq_true rfl) (fun _ _ z => z.elim) h18 (fun x21 M19 h20 => ?_)
      obtain ⟨s22, h23⟩ := h20
      obtain ⟨h24, h25⟩ := h23
      refine ev_if_eq 231 dX12_waysBy_113 (by decide) s22 (fun c26 => ?_) (fun c26 => ?_)
      · have h27 := h24 c26
        refine ev_iinc (j := 4) dX12_waysBy_231 rfl (by decide) rfl ?_
        refine ev_goto 82 dX12_waysBy_234 (by decide) ?_
        exact ev_sub [1, 2, 3, 4, 0] rfl h27
      · have h28 := h25 c26
        refine ev_aload_n (j := 0) dX12_waysBy_116 rfl rfl ?_
        refine ev_get frX12_62 dX12_waysBy_117 dm8_0 en8_0 rfl ?_
        refine ev_iload_n (j := 3) dX12_waysBy_120 rfl rfl ?_
        refine ev_iald dX12_waysBy_121 dm8_18 ar8_18 (by decide) s9 s10 ?_
        refine ev_iload (j := 4) dX12_waysBy_122 rfl ?_
        obtain ⟨s29, h30⟩ := h28
        obtain ⟨h31, h32⟩ := h30
        refine ev_icmp_eq 231 dX12_waysBy_124 (by decide) s29 s1 (fun c33 => ?_) (fun c33 => ?_)
        · have h34 := h31 c33
          refine ev_iinc (j := 4) dX12_waysBy_231 rfl (by decide) rfl ?_
          refine ev_goto 82 dX12_waysBy_234 (by decide) ?_
          exact ev_sub [1, 2, 3, 4, 0] rfl h34
        · have h35 := h32 c33
          refine ev_aload_n (j := 0) dX12_waysBy_127 rfl rfl ?_
          refine ev_get frX12_65 dX12_waysBy_128 dm8_0 en8_0 rfl ?_
          refine ev_iload_n (j := 3) dX12_waysBy_131 rfl rfl ?_
          refine ev_iald dX12_waysBy_132 dm8_19 ar8_19 (by decide) s9 s10 ?_
          refine ev_aload_n (j := 0) dX12_waysBy_133 rfl rfl ?_
          refine ev_iload_n (j := 3) dX12_waysBy_134 rfl rfl ?_
          refine ev_iload (j := 4) dX12_waysBy_135 rfl ?_
          refine ev_iload_n (j := 1) dX12_waysBy_137 rfl rfl ?_
          refine ev_callVI (As := [iv v3, iv v4, iv v1]) (st := [iv (M19 8 0 19 v3)]) mfX12_pairCost mlX12_314 dX12_waysBy_138 rfl dm8_0 en8_0 rfl rfl rfl (by decide) (by decide) (by decide) (Nat.le_of_ble_eq_true rfl) (fun _ _ z => z.elim) h35 (fun x38 M36 h37 => ?_)
          refine ev_iadd dX12_waysBy_141 ?_
          refine ev_aload_n (j := 0) dX12_waysBy_142 rfl rfl ?_
          refine ev_get frX12_68 dX12_waysBy_143 dm8_0 en8_0 rfl ?_
          refine ev_iload (j := 4) dX12_waysBy_146 rfl ?_
          obtain ⟨s39, s40, h41⟩ := h37
          refine ev_iald dX12_waysBy_148 dm8_20 ar8_20 (by decide) s39 s40 ?_
          obtain ⟨s42, s43, h44⟩ := h41
          obtain ⟨h45, h46⟩ := h44
          refine ev_icmp_lt 155 dX12_waysBy_149 (by decide) s42 s43 (fun c47 => ?_) (fun c47 => ?_)
          · have h48 := h45 c47
            refine ev_aload_n (j := 0) dX12_waysBy_155 rfl rfl ?_
            refine ev_get frX12_68 dX12_waysBy_156 dm8_0 en8_0 rfl ?_
            refine ev_iload (j := 4) dX12_waysBy_159 rfl ?_
            refine ev_aload_n (j := 0) dX12_waysBy_161 rfl rfl ?_
            refine ev_get frX12_65 dX12_waysBy_162 dm8_0 en8_0 rfl ?_
            refine ev_iload_n (j := 3) dX12_waysBy_165 rfl rfl ?_
            refine ev_iald dX12_waysBy_166 dm8_19 ar8_19 (by decide) s9 s10 ?_
            refine ev_aload_n (j := 0) dX12_waysBy_167 rfl rfl ?_
            refine ev_iload_n (j := 3) dX12_waysBy_168 rfl rfl ?_
            refine ev_iload (j := 4) dX12_waysBy_169 rfl ?_
            refine ev_iload_n (j := 1) dX12_waysBy_171 rfl rfl ?_
            refine ev_callVI (As := [iv v3, iv v4, iv v1]) (st := [iv (M36 8 0 19 v3), iv v4, rr G 8 0 20]) mfX12_pairCost mlX12_314 dX12_waysBy_172 rfl dm8_0 en8_0 rfl rfl rfl (by decide) (by decide) (by decide) (Nat.le_of_ble_eq_true rfl) (fun _ _ z => z.elim) h48 (fun x51 M49 h50 => ?_)
            refine ev_iadd dX12_waysBy_175 ?_
            refine ev_iast dX12_waysBy_176 dm8_20 ar8_20 (by decide) s39 s40 ?_
            refine ev_aload_n (j := 0) dX12_waysBy_177 rfl rfl ?_
            refine ev_get frX12_71 dX12_waysBy_178 dm8_0 en8_0 rfl ?_
            refine ev_iload (j := 4) dX12_waysBy_181 rfl ?_
            refine ev_iload_n (j := 3) dX12_waysBy_183 rfl rfl ?_
            refine ev_iast dX12_waysBy_184 dm8_21 ar8_21 (by decide) s39 s40 ?_
            refine ev_aload_n (j := 0) dX12_waysBy_185 rfl rfl ?_
            refine ev_get frX12_49 dX12_waysBy_186 dm8_0 en8_0 rfl ?_
            refine ev_iload (j := 4) dX12_waysBy_189 rfl ?_
            refine ev_iald dX12_waysBy_191 dm8_14 ar8_14 (by decide) s39 s40 ?_
            refine ev_topI (b := M49 8 0 14 v4) rfl ?_
            obtain ⟨s52, h53⟩ := h50
            obtain ⟨h54, h55⟩ := h53
            refine ev_if_lt 229 dX12_waysBy_192 (by decide) s52 (fun c56 => ?_) (fun c56 => ?_)
            · have h57 := h54 c56
              refine ev_iconst dX12_waysBy_229 ?_
              refine ev_istore_n dX12_waysBy_230 rfl (by decide) rfl ?_
              refine ev_iinc (j := 4) dX12_waysBy_231 rfl (by decide) rfl ?_
              refine ev_goto 82 dX12_waysBy_234 (by decide) ?_
              exact ev_sub [2, 3, 1, 4, 0] rfl h57
            · have h58 := h55 c56
              refine ev_aload_n (j := 0) dX12_waysBy_195 rfl rfl ?_
              refine ev_get frX12_65 dX12_waysBy_196 dm8_0 en8_0 rfl ?_
              refine ev_aload_n (j := 0) dX12_waysBy_199 rfl rfl ?_
              refine ev_get frX12_49 dX12_waysBy_200 dm8_0 en8_0 rfl ?_
              refine ev_iload (j := 4) dX12_waysBy_203 rfl ?_
              refine ev_iald dX12_waysBy_205 dm8_14 ar8_14 (by decide) s39 s40 ?_
              refine ev_topI (b := M49 8 0 14 v4) rfl ?_
              refine ev_aload_n (j := 0) dX12_waysBy_206 rfl rfl ?_
              refine ev_get frX12_68 dX12_waysBy_207 dm8_0 en8_0 rfl ?_
              refine ev_iload (j := 4) dX12_waysBy_210 rfl ?_
              refine ev_iald dX12_waysBy_212 dm8_20 ar8_20 (by decide) s39 s40 ?_
              refine ev_topI (b := (wr M49 8 0 20 v4 ((M36 8 0 19 v3) + x51)) 8 0 20 v4) rfl ?_
              refine ev_aload_n (j := 0) dX12_waysBy_213 rfl rfl ?_
              refine ev_aload_n (j := 0) dX12_waysBy_214 rfl rfl ?_
              refine ev_get frX12_49 dX12_waysBy_215 dm8_0 en8_0 rfl ?_
              refine ev_iload (j := 4) dX12_waysBy_218 rfl ?_
              refine ev_iald dX12_waysBy_220 dm8_14 ar8_14 (by decide) s39 s40 ?_
              refine ev_topI (b := M49 8 0 14 v4) rfl ?_
              refine ev_iload (j := 4) dX12_waysBy_221 rfl ?_
              refine ev_iload_n (j := 1) dX12_waysBy_223 rfl rfl ?_
              refine ev_callVI (As := [iv (M49 8 0 14 v4), iv v4, iv v1]) (st := [iv ((wr M49 8 0 20 v4 ((M36 8 0 19 v3) + x51)) 8 0 20 v4), iv (M49 8 0 14 v4), rr G 8 0 19]) mfX12_pairCost mlX12_314 dX12_waysBy_224 rfl dm8_0 en8_0 rfl rfl rfl (by decide) (by decide) (by decide) (Nat.le_of_ble_eq_true rfl) (fun _ _ z => z.elim) h58 (fun x61 M59 h60 => ?_)
              refine ev_isub dX12_waysBy_227 ?_
              obtain ⟨s62, s63, h64⟩ := h60
              refine ev_iast dX12_waysBy_228 dm8_19 ar8_19 (by decide) s62 s63 ?_
              obtain ⟨M65, e67⟩ : ∃ M65 : Mem, M65 = wr M59 8 0 19 (M49 8 0 14 v4) (((wr M49 8 0 20 v4 ((M36 8 0 19 v3) + x51)) 8 0 20 v4) - x61) := ⟨_, rfl⟩
              have h66 := h64 _ e67
              refine ev_mem e67 ?_
              refine ev_iconst dX12_waysBy_229 ?_
              refine ev_istore_n dX12_waysBy_230 rfl (by decide) rfl ?_
              refine ev_iinc (j := 4) dX12_waysBy_231 rfl (by decide) rfl ?_
              refine ev_goto 82 dX12_waysBy_234 (by decide) ?_
              exact ev_sub [2, 3, 1, 4, 0] rfl h66
          · have h68 := h46 c47
            refine ev_goto 231 dX12_waysBy_152 (by decide) ?_
            refine ev_iinc (j := 4) dX12_waysBy_231 rfl (by decide) rfl ?_
            refine ev_goto 82 dX12_waysBy_234 (by decide) ?_
            exact ev_sub [1, 2, 3, 4, 0] rfl h68
def eX12_wouldRefuse (G : GT) (K : List Value → Mem → Prop) (X : String → Mem → Prop) (pc : Nat) (lv : List (Nat × Value)) (st : List Value) (M : Mem) : Prop := Ex G zX12_wouldRefuse 4 0 K X 0 pc lv st M
set_option maxRecDepth 20000 in
set_option maxHeartbeats 4000000 in
theorem bX12_wouldRefuse {G : GT} {K : List Value → Mem → Prop} {X : String → Mem → Prop} {M : Mem} {v1 v2 : Int} (h : Call G 1 0 zX12_isTrip [rr G 8 0 0, iv v1] M (kI (fun x3 M1 => I32 x3 ∧ ((x3 = 0 → K [iv 0] (wr M1 8 0 0 7 1)) ∧ (¬ x3 = 0 → Call G 1 0 zX12_isVehicle [rr G 8 0 0, iv v2] M1 (kI (fun x13 M11 => I32 x13 ∧ ((x13 = 0 → K [iv 0] (wr M11 8 0 0 7 1)) ∧ (¬ x13 = 0 → Call G 3 0 zX12_reasonFor [rr G 8 0 0, iv v1, iv v2] (wr M11 8 0 0 7 0) (kI (fun x23 M21 => K [iv x23] M21)) noX)))) noX)))) noX) : Call G 4 0 zX12_wouldRefuse [rr G 8 0 0, iv v1, iv v2] M K X := by
  refine call_intro (lv := [(0, rr G 8 0 0), (1, iv v1), (2, iv v2)]) (by decide) rfl (Nat.le_of_ble_eq_true rfl) rfl ?_
  refine ev_aload_n (j := 0) dX12_wouldRefuse_0 rfl rfl ?_
  refine ev_aload_n (j := 0) dX12_wouldRefuse_1 rfl rfl ?_
  refine ev_iload_n (j := 1) dX12_wouldRefuse_2 rfl rfl ?_
  refine ev_callVI (As := [iv v1]) (st := [rr G 8 0 0]) mfX12_isTrip mlX12_169 dX12_wouldRefuse_3 rfl dm8_0 en8_0 rfl rfl rfl (by decide) (by decide) (by decide) (Nat.le_of_ble_eq_true rfl) (fun _ _ z => z.elim) h (fun x3 M1 h2 => ?_)
  obtain ⟨s4, h5⟩ := h2
  obtain ⟨h6, h7⟩ := h5
  refine ev_if_eq 21 dX12_wouldRefuse_6 (by decide) s4 (fun c8 => ?_) (fun c8 => ?_)
  · have h9 := h6 c8
    refine ev_iconst dX12_wouldRefuse_21 ?_
    refine ev_put fwX12_84 dX12_wouldRefuse_22 dm8_0 en8_0 rfl rfl rfl (Nat.le_of_ble_eq_true rfl) ?_
    refine ev_aload_n (j := 0) dX12_wouldRefuse_25 rfl rfl ?_
    refine ev_get frX12_84 dX12_wouldRefuse_26 dm8_0 en8_0 rfl ?_
    refine ev_topI (b := 1) rfl ?_
    refine ev_if_le 36 dX12_wouldRefuse_29 (by decide) ⟨by decide, by decide⟩ (fun c9 => absurd c9 (by decide)) (fun _ => ?_)
    refine ev_iconst dX12_wouldRefuse_32 ?_
    refine ev_goto 42 dX12_wouldRefuse_33 (by decide) ?_
    exact ev_iret dX12_wouldRefuse_42 (by decide) rfl h9
  · have h10 := h7 c8
    refine ev_aload_n (j := 0) dX12_wouldRefuse_9 rfl rfl ?_
    refine ev_iload_n (j := 2) dX12_wouldRefuse_10 rfl rfl ?_
    refine ev_callVI (As := [iv v2]) (st := [rr G 8 0 0]) mfX12_isVehicle mlX12_220 dX12_wouldRefuse_11 rfl dm8_0 en8_0 rfl rfl rfl (by decide) (by decide) (by decide) (Nat.le_of_ble_eq_true rfl) (fun _ _ z => z.elim) h10 (fun x13 M11 h12 => ?_)
    obtain ⟨s14, h15⟩ := h12
    obtain ⟨h16, h17⟩ := h15
    refine ev_if_eq 21 dX12_wouldRefuse_14 (by decide) s14 (fun c18 => ?_) (fun c18 => ?_)
    · have h19 := h16 c18
      refine ev_iconst dX12_wouldRefuse_21 ?_
      refine ev_put fwX12_84 dX12_wouldRefuse_22 dm8_0 en8_0 rfl rfl rfl (Nat.le_of_ble_eq_true rfl) ?_
      refine ev_aload_n (j := 0) dX12_wouldRefuse_25 rfl rfl ?_
      refine ev_get frX12_84 dX12_wouldRefuse_26 dm8_0 en8_0 rfl ?_
      refine ev_topI (b := 1) rfl ?_
      refine ev_if_le 36 dX12_wouldRefuse_29 (by decide) ⟨by decide, by decide⟩ (fun c9 => absurd c9 (by decide)) (fun _ => ?_)
      refine ev_iconst dX12_wouldRefuse_32 ?_
      refine ev_goto 42 dX12_wouldRefuse_33 (by decide) ?_
      exact ev_iret dX12_wouldRefuse_42 (by decide) rfl h19
    · have h20 := h17 c18
      refine ev_iconst dX12_wouldRefuse_17 ?_
      refine ev_goto 22 dX12_wouldRefuse_18 (by decide) ?_
      refine ev_put fwX12_84 dX12_wouldRefuse_22 dm8_0 en8_0 rfl rfl rfl (Nat.le_of_ble_eq_true rfl) ?_
      refine ev_aload_n (j := 0) dX12_wouldRefuse_25 rfl rfl ?_
      refine ev_get frX12_84 dX12_wouldRefuse_26 dm8_0 en8_0 rfl ?_
      refine ev_topI (b := 0) rfl ?_
      refine ev_if_le 36 dX12_wouldRefuse_29 (by decide) ⟨by decide, by decide⟩ (fun _ => ?_) (fun c9 => absurd c9 (by decide))
      refine ev_aload_n (j := 0) dX12_wouldRefuse_36 rfl rfl ?_
      refine ev_iload_n (j := 1) dX12_wouldRefuse_37 rfl rfl ?_
      refine ev_iload_n (j := 2) dX12_wouldRefuse_38 rfl rfl ?_
      refine ev_callVI (As := [iv v1, iv v2]) (st := []) mfX12_reasonFor mlX12_223 dX12_wouldRefuse_39 rfl dm8_0 en8_0 rfl rfl rfl (by decide) (by decide) (by decide) (Nat.le_of_ble_eq_true rfl) (fun _ _ z => z.elim) h20 (fun x23 M21 h22 => ?_)
      exact ev_iret dX12_wouldRefuse_42 (by decide) rfl h22
