/-! blocks of TramLines, second half (by program) -/
def eX11_actual (G : GT) (K : List Value → Mem → Prop) (X : String → Mem → Prop) (pc : Nat) (lv : List (Nat × Value)) (st : List Value) (M : Mem) : Prop := Ex G zX11_actual 9 2 K X 0 pc lv st M
set_option maxRecDepth 20000 in
set_option maxHeartbeats 4000000 in
theorem bX11_actual {G : GT} {K : List Value → Mem → Prop} {X : String → Mem → Prop} {M : Mem} {v1 v2 v3 : Int} (h : Call G 8 1 zX11_requireIndex [iv v1, iv (M 1 0 6 4)] M (kV (fun M1 => Call G 1 0 zX8_isOnWay [rr G 1 0 6, iv v1, iv v2] M1 (kI (fun x6 M4 => I32 x6 ∧ ((¬ x6 = 0 → Call G 4 0 zX1_pass [rr G 3 0 0, rr G 1 0 0] M4 (kV (fun M13 => I32 v3 ∧ ((v3 = 0 → 0 ≤ v1 ∧ v1 < 30 ∧ 0 ≤ v2 ∧ v2 < 12 ∧ I32 (M13 3 0 (2 + v1) v2) ∧ ((¬ (M13 3 0 (2 + v1) v2) = (-1) → K [iv (M13 3 0 (2 + v1) v2)] M13) ∧ ((M13 3 0 (2 + v1) v2) = (-1) → X "java/util/NoSuchElementException" M13))) ∧ (¬ v3 = 0 → 0 ≤ v1 ∧ v1 < 30 ∧ 0 ≤ v2 ∧ v2 < 12 ∧ I32 (M13 3 0 (33 + v1) v2) ∧ ((¬ (M13 3 0 (33 + v1) v2) = (-1) → K [iv (M13 3 0 (33 + v1) v2)] M13) ∧ ((M13 3 0 (33 + v1) v2) = (-1) → X "java/util/NoSuchElementException" M13)))))) noX) ∧ (x6 = 0 → X "java/util/NoSuchElementException" M4)))) noX)) X) : Call G 9 2 zX11_actual [rr G 0 0 0, iv v1, iv v2, iv v3] M K X := by
  refine call_intro (lv := [(0, rr G 0 0 0), (1, iv v1), (2, iv v2), (3, iv v3)]) (by decide) rfl (Nat.le_of_ble_eq_true rfl) rfl ?_
  refine ev_iload_n (j := 1) dX11_actual_0 rfl rfl ?_
  refine ev_aload_n (j := 0) dX11_actual_1 rfl rfl ?_
  refine ev_get frX11_10 dX11_actual_2 dm0_0 en0_0 rfl ?_
  refine ev_get frX11_114 dX11_actual_5 (dom1 (by decide) (by decide) (by decide) (by decide)) en1_0 rfl ?_
  refine ev_get frX11_149 dX11_actual_8 (dom1 (by decide) (by decide) (by decide) (by decide)) en1_6 rfl ?_
  refine ev_callSV (As := [iv v1, iv (M 1 0 6 4)]) (st := []) mfX11_requireIndex mlX11_65 dX11_actual_11 rfl rfl (by decide) (by decide) (by decide) (Nat.le_of_ble_eq_true rfl) (fun _ _ z => z) h (fun M1 h2 => ?_)
  refine ev_aload_n (j := 0) dX11_actual_14 rfl rfl ?_
  refine ev_get frX11_10 dX11_actual_15 dm0_0 en0_0 rfl ?_
  refine ev_get frX11_114 dX11_actual_18 (dom1 (by decide) (by decide) (by decide) (by decide)) en1_0 rfl ?_
  refine ev_iload_n (j := 1) dX11_actual_21 rfl rfl ?_
  refine ev_iload_n (j := 2) dX11_actual_22 rfl rfl ?_
  refine ev_callVI (As := [iv v1, iv v2]) (st := []) mfX8_isOnWay mlX11_197 dX11_actual_23 rfl (dom1 (by decide) (by decide) (by decide) (by decide)) en1_6 rfl rfl rfl (by decide) (by decide) (by decide) (Nat.le_of_ble_eq_true rfl) (fun _ _ z => z.elim) h2 (fun x6 M4 h5 => ?_)
  obtain ⟨s7, h8⟩ := h5
  obtain ⟨h9, h10⟩ := h8
  refine ev_if_ne 39 dX11_actual_26 (by decide) s7 (fun c11 => ?_) (fun c11 => ?_)
  · have h12 := h9 c11
    refine ev_aload_n (j := 0) dX11_actual_39 rfl rfl ?_
    refine ev_get frX11_29 dX11_actual_40 dm0_0 en0_0 rfl ?_
    refine ev_aload_n (j := 0) dX11_actual_43 rfl rfl ?_
    refine ev_get frX11_10 dX11_actual_44 dm0_0 en0_0 rfl ?_
    refine ev_callVV (As := [rr G 1 0 0]) (st := []) mfX1_pass mlX11_349 dX11_actual_47 rfl dm3_0 en3_0 rfl rfl rfl (by decide) (by decide) (by decide) (Nat.le_of_ble_eq_true rfl) (fun _ _ z => z.elim) h12 (fun M13 h14 => ?_)
    refine ev_iload_n (j := 3) dX11_actual_50 rfl rfl ?_
    obtain ⟨s16, h17⟩ := h14
    obtain ⟨h18, h19⟩ := h17
    refine ev_if_eq 68 dX11_actual_51 (by decide) s16 (fun c20 => ?_) (fun c20 => ?_)
    · have h21 := h18 c20
      refine ev_aload_n (j := 0) dX11_actual_68 rfl rfl ?_
      refine ev_get frX11_29 dX11_actual_69 dm0_0 en0_0 rfl ?_
      refine ev_get frX11_355 dX11_actual_72 dm3_0 en3_0 rfl ?_
      refine ev_iload_n (j := 1) dX11_actual_75 rfl rfl ?_
      obtain ⟨s22, s23, h24⟩ := h21
      refine ev_aald (t := 4) (q := ad G 3 0 (2 + v1)) (Or.inr rfl) dX11_actual_76 dm3_1 rfl (by decide) s22 s23 (by first | rfl | (show some (ad G _ _ (_ + ((v1 : Int).toNat : Int))) = _; rw [Int.toNat_of_nonneg (by omega)]; first | done | rfl)) ?_
      refine ev_iload_n (j := 2) dX11_actual_77 rfl rfl ?_
      obtain ⟨s25, s26, h27⟩ := h24
      refine ev_iald dX11_actual_78 (dom3 (by omega) (by omega)) (row3_2 (by omega) (by omega)) (by decide) s25 s26 ?_
      refine ev_istore dX11_actual_79 (by decide) rfl ?_
      refine ev_iload (j := 0) dX11_actual_81 rfl ?_
      refine ev_iconst dX11_actual_83 ?_
      obtain ⟨s28, h29⟩ := h27
      obtain ⟨h30, h31⟩ := h29
      refine ev_icmp_ne 98 dX11_actual_84 (by decide) s28 ⟨by decide, by decide⟩ (fun c32 => ?_) (fun c32 => ?_)
      · have h33 := h30 c32
        refine ev_iload (j := 0) dX11_actual_98 rfl ?_
        exact ev_iret dX11_actual_100 (by decide) rfl h33
      · have h34 := h31 c32
        exact thrX11_actual_87 (by decide) h34
    · have h35 := h19 c20
      refine ev_aload_n (j := 0) dX11_actual_54 rfl rfl ?_
      refine ev_get frX11_29 dX11_actual_55 dm0_0 en0_0 rfl ?_
      refine ev_get frX11_352 dX11_actual_58 dm3_0 en3_0 rfl ?_
      refine ev_iload_n (j := 1) dX11_actual_61 rfl rfl ?_
      obtain ⟨s36, s37, h38⟩ := h35
      refine ev_aald (t := 4) (q := ad G 3 0 (33 + v1)) (Or.inr rfl) dX11_actual_62 dm3_32 rfl (by decide) s36 s37 (by first | rfl | (show some (ad G _ _ (_ + ((v1 : Int).toNat : Int))) = _; rw [Int.toNat_of_nonneg (by omega)]; first | done | rfl)) ?_
      refine ev_iload_n (j := 2) dX11_actual_63 rfl rfl ?_
      obtain ⟨s39, s40, h41⟩ := h38
      refine ev_iald dX11_actual_64 (dom3 (by omega) (by omega)) (row3_33 (by omega) (by omega)) (by decide) s39 s40 ?_
      refine ev_goto 79 dX11_actual_65 (by decide) ?_
      refine ev_istore dX11_actual_79 (by decide) rfl ?_
      refine ev_iload (j := 0) dX11_actual_81 rfl ?_
      refine ev_iconst dX11_actual_83 ?_
      obtain ⟨s42, h43⟩ := h41
      obtain ⟨h44, h45⟩ := h43
      refine ev_icmp_ne 98 dX11_actual_84 (by decide) s42 ⟨by decide, by decide⟩ (fun c46 => ?_) (fun c46 => ?_)
      · have h47 := h44 c46
        refine ev_iload (j := 0) dX11_actual_98 rfl ?_
        exact ev_iret dX11_actual_100 (by decide) rfl h47
      · have h48 := h45 c46
        exact thrX11_actual_87 (by decide) h48
  · have h49 := h10 c11
    exact thrX11_actual_29 (by decide) h49
def eX11_delay (G : GT) (K : List Value → Mem → Prop) (X : String → Mem → Prop) (pc : Nat) (lv : List (Nat × Value)) (st : List Value) (M : Mem) : Prop := Ex G zX11_delay 9 2 K X 0 pc lv st M
set_option maxRecDepth 20000 in
set_option maxHeartbeats 4000000 in
theorem bX11_delay {G : GT} {K : List Value → Mem → Prop} {X : String → Mem → Prop} {M : Mem} {v1 : Int} (h : Call G 8 1 zX11_requireIndex [iv v1, iv (M 1 0 6 4)] M (kV (fun M1 => Call G 4 0 zX1_pass [rr G 3 0 0, rr G 1 0 0] M1 (kV (fun M4 => Call G 1 0 zX1_hasArrived [rr G 3 0 0, iv v1] M4 (kI (fun x9 M7 => I32 x9 ∧ ((¬ x9 = 0 → Call G 2 0 zX1_delayOf [rr G 3 0 0, iv v1] M7 (kI (fun x18 M16 => K [iv x18] M16)) noX) ∧ (x9 = 0 → X "java/util/NoSuchElementException" M7)))) noX)) noX)) X) : Call G 9 2 zX11_delay [rr G 0 0 0, iv v1] M K X := by
  refine call_intro (lv := [(0, rr G 0 0 0), (1, iv v1)]) (by decide) rfl (Nat.le_of_ble_eq_true rfl) rfl ?_
  refine ev_iload_n (j := 1) dX11_delay_0 rfl rfl ?_
  refine ev_aload_n (j := 0) dX11_delay_1 rfl rfl ?_
  refine ev_get frX11_10 dX11_delay_2 dm0_0 en0_0 rfl ?_
  refine ev_get frX11_114 dX11_delay_5 (dom1 (by decide) (by decide) (by decide) (by decide)) en1_0 rfl ?_
  refine ev_get frX11_149 dX11_delay_8 (dom1 (by decide) (by decide) (by decide) (by decide)) en1_6 rfl ?_
  refine ev_callSV (As := [iv v1, iv (M 1 0 6 4)]) (st := []) mfX11_requireIndex mlX11_65 dX11_delay_11 rfl rfl (by decide) (by decide) (by decide) (Nat.le_of_ble_eq_true rfl) (fun _ _ z => z) h (fun M1 h2 => ?_)
  refine ev_aload_n (j := 0) dX11_delay_14 rfl rfl ?_
  refine ev_get frX11_29 dX11_delay_15 dm0_0 en0_0 rfl ?_
  refine ev_aload_n (j := 0) dX11_delay_18 rfl rfl ?_
  refine ev_get frX11_10 dX11_delay_19 dm0_0 en0_0 rfl ?_
  refine ev_callVV (As := [rr G 1 0 0]) (st := []) mfX1_pass mlX11_349 dX11_delay_22 rfl dm3_0 en3_0 rfl rfl rfl (by decide) (by decide) (by decide) (Nat.le_of_ble_eq_true rfl) (fun _ _ z => z.elim) h2 (fun M4 h5 => ?_)
  refine ev_aload_n (j := 0) dX11_delay_25 rfl rfl ?_
  refine ev_get frX11_29 dX11_delay_26 dm0_0 en0_0 rfl ?_
  refine ev_iload_n (j := 1) dX11_delay_29 rfl rfl ?_
  refine ev_callVI (As := [iv v1]) (st := []) mfX1_hasArrived mlX11_360 dX11_delay_30 rfl dm3_0 en3_0 rfl rfl rfl (by decide) (by decide) (by decide) (Nat.le_of_ble_eq_true rfl) (fun _ _ z => z.elim) h5 (fun x9 M7 h8 => ?_)
  obtain ⟨s10, h11⟩ := h8
  obtain ⟨h12, h13⟩ := h11
  refine ev_if_ne 47 dX11_delay_33 (by decide) s10 (fun c14 => ?_) (fun c14 => ?_)
  · have h15 := h12 c14
    refine ev_aload_n (j := 0) dX11_delay_47 rfl rfl ?_
    refine ev_get frX11_29 dX11_delay_48 dm0_0 en0_0 rfl ?_
    refine ev_iload_n (j := 1) dX11_delay_51 rfl rfl ?_
    refine ev_callVI (As := [iv v1]) (st := []) mfX1_delayOf mlX11_365 dX11_delay_52 rfl dm3_0 en3_0 rfl rfl rfl (by decide) (by decide) (by decide) (Nat.le_of_ble_eq_true rfl) (fun _ _ z => z.elim) h15 (fun x18 M16 h17 => ?_)
    exact ev_iret dX11_delay_55 (by decide) rfl h17
  · have h19 := h13 c14
    exact thrX11_delay_36 (by decide) h19
def eX11_duty (G : GT) (K : List Value → Mem → Prop) (X : String → Mem → Prop) (pc : Nat) (lv : List (Nat × Value)) (st : List Value) (M : Mem) : Prop := Ex G zX11_duty 9 2 K X 0 pc lv st M
set_option maxRecDepth 20000 in
set_option maxHeartbeats 4000000 in
theorem bX11_duty {G : GT} {K : List Value → Mem → Prop} {X : String → Mem → Prop} {M : Mem} {v1 v2 : Int} (h : Call G 8 1 zX11_requireIndex [iv v1, iv (M 1 0 11 3)] M (kV (fun M1 => I32 v2 ∧ ((v2 < 0 → X "java/util/NoSuchElementException" M1) ∧ (¬ v2 < 0 → 0 ≤ v1 ∧ v1 < 10 ∧ I32 (M1 1 0 13 v1) ∧ ((v2 < (M1 1 0 13 v1) → 0 ≤ v2 ∧ v2 < 30 ∧ K [iv (M1 1 0 (15 + v1) v2)] M1) ∧ (¬ v2 < (M1 1 0 13 v1) → X "java/util/NoSuchElementException" M1)))))) X) : Call G 9 2 zX11_duty [rr G 0 0 0, iv v1, iv v2] M K X := by
  refine call_intro (lv := [(0, rr G 0 0 0), (1, iv v1), (2, iv v2)]) (by decide) rfl (Nat.le_of_ble_eq_true rfl) rfl ?_
  refine ev_iload_n (j := 1) dX11_duty_0 rfl rfl ?_
  refine ev_aload_n (j := 0) dX11_duty_1 rfl rfl ?_
  refine ev_get frX11_10 dX11_duty_2 dm0_0 en0_0 rfl ?_
  refine ev_get frX11_166 dX11_duty_5 (dom1 (by decide) (by decide) (by decide) (by decide)) en1_0 rfl ?_
  refine ev_get frX11_217 dX11_duty_8 (dom1 (by decide) (by decide) (by decide) (by decide)) en1_11 rfl ?_
  refine ev_callSV (As := [iv v1, iv (M 1 0 11 3)]) (st := []) mfX11_requireIndex mlX11_65 dX11_duty_11 rfl rfl (by decide) (by decide) (by decide) (Nat.le_of_ble_eq_true rfl) (fun _ _ z => z) h (fun M1 h2 => ?_)
  refine ev_iload_n (j := 2) dX11_duty_14 rfl rfl ?_
  obtain ⟨s4, h5⟩ := h2
  obtain ⟨h6, h7⟩ := h5
  refine ev_if_lt 34 dX11_duty_15 (by decide) s4 (fun c8 => ?_) (fun c8 => ?_)
  · have h9 := h6 c8
    exact thrX11_duty_34 (by decide) h9
  · have h10 := h7 c8
    refine ev_iload_n (j := 2) dX11_duty_18 rfl rfl ?_
    refine ev_aload_n (j := 0) dX11_duty_19 rfl rfl ?_
    refine ev_get frX11_10 dX11_duty_20 dm0_0 en0_0 rfl ?_
    refine ev_get frX11_166 dX11_duty_23 (dom1 (by decide) (by decide) (by decide) (by decide)) en1_0 rfl ?_
    refine ev_get frX11_304 dX11_duty_26 (dom1 (by decide) (by decide) (by decide) (by decide)) en1_11 rfl ?_
    refine ev_iload_n (j := 1) dX11_duty_29 rfl rfl ?_
    obtain ⟨s11, s12, h13⟩ := h10
    refine ev_iald dX11_duty_30 (dom1 (by decide) (by decide) (by decide) (by decide)) ar1_13 (by decide) s11 s12 ?_
    obtain ⟨s14, h15⟩ := h13
    obtain ⟨h16, h17⟩ := h15
    refine ev_icmp_lt 45 dX11_duty_31 (by decide) s4 s14 (fun c18 => ?_) (fun c18 => ?_)
    · have h19 := h16 c18
      refine ev_aload_n (j := 0) dX11_duty_45 rfl rfl ?_
      refine ev_get frX11_10 dX11_duty_46 dm0_0 en0_0 rfl ?_
      refine ev_get frX11_166 dX11_duty_49 (dom1 (by decide) (by decide) (by decide) (by decide)) en1_0 rfl ?_
      refine ev_get frX11_309 dX11_duty_52 (dom1 (by decide) (by decide) (by decide) (by decide)) en1_11 rfl ?_
      refine ev_iload_n (j := 1) dX11_duty_55 rfl rfl ?_
      refine ev_aald (t := 4) (q := ad G 1 0 (15 + v1)) (Or.inr rfl) dX11_duty_56 (dom1 (by decide) (by decide) (by decide) (by decide)) rfl (by decide) s11 s12 (by first | rfl | (show some (ad G _ _ (_ + ((v1 : Int).toNat : Int))) = _; rw [Int.toNat_of_nonneg (by omega)]; first | done | rfl)) ?_
      refine ev_iload_n (j := 2) dX11_duty_57 rfl rfl ?_
      obtain ⟨s20, s21, h22⟩ := h19
      refine ev_iald dX11_duty_58 (dom1 (by decide) (by decide) (by omega) (by omega)) (row1_15 (by omega) (by omega)) (by decide) s20 s21 ?_
      exact ev_iret dX11_duty_59 (by decide) rfl h22
    · have h23 := h17 c18
      exact thrX11_duty_34 (by decide) h23
def eX11_headway (G : GT) (K : List Value → Mem → Prop) (X : String → Mem → Prop) (pc : Nat) (lv : List (Nat × Value)) (st : List Value) (M : Mem) : Prop := Ex G zX11_headway 9 3 K X 0 pc lv st M
set_option maxRecDepth 20000 in
set_option maxHeartbeats 4000000 in
theorem bX11_headway {G : GT} {K : List Value → Mem → Prop} {X : String → Mem → Prop} {M : Mem} {v1 v2 v3 : Int} (h : Call G 8 1 zX11_requireIndex [iv v1, iv 2] M (kV (fun M1 => Call G 8 1 zX11_requireIndex [iv v2, iv 12] M1 (kV (fun M4 => Call G 2 0 zX4_listPassages [rr G 1 0 0, iv v1, iv v2, rr G 5 0 0] M4 (kV (fun M7 => I32 (M7 5 0 0 2) ∧ ((¬ (M7 5 0 0 2) < 2 → I32 v3 ∧ ((v3 = 0 → Call G 1 0 zX7_leastHeadway [rr G 5 0 0] M7 (kI (fun x24 M22 => K [iv x24] M22)) noX) ∧ (¬ v3 = 0 → Call G 1 0 zX7_greatestHeadway [rr G 5 0 0] M7 (kI (fun x28 M26 => K [iv x28] M26)) noX))) ∧ ((M7 5 0 0 2) < 2 → X "java/util/NoSuchElementException" M7)))) noX)) X)) X) : Call G 9 3 zX11_headway [rr G 0 0 0, iv v1, iv v2, iv v3] M K X := by
  refine call_intro (lv := [(0, rr G 0 0 0), (1, iv v1), (2, iv v2), (3, iv v3)]) (by decide) rfl (Nat.le_of_ble_eq_true rfl) rfl ?_
  refine ev_iload_n (j := 1) dX11_headway_0 rfl rfl ?_
  refine ev_iconst dX11_headway_1 ?_
  refine ev_callSV (As := [iv v1, iv 2]) (st := []) mfX11_requireIndex mlX11_65 dX11_headway_2 rfl rfl (by decide) (by decide) (by decide) (Nat.le_of_ble_eq_true rfl) (fun _ _ z => z) h (fun M1 h2 => ?_)
  refine ev_iload_n (j := 2) dX11_headway_5 rfl rfl ?_
  refine ev_bipush dX11_headway_6 (by decide) ?_
  refine ev_callSV (As := [iv v2, iv 12]) (st := []) mfX11_requireIndex mlX11_65 dX11_headway_8 rfl rfl (by decide) (by decide) (by decide) (Nat.le_of_ble_eq_true rfl) (fun _ _ z => z) h2 (fun M4 h5 => ?_)
  refine ev_aload_n (j := 0) dX11_headway_11 rfl rfl ?_
  refine ev_get frX11_10 dX11_headway_12 dm0_0 en0_0 rfl ?_
  refine ev_iload_n (j := 1) dX11_headway_15 rfl rfl ?_
  refine ev_iload_n (j := 2) dX11_headway_16 rfl rfl ?_
  refine ev_aload_n (j := 0) dX11_headway_17 rfl rfl ?_
  refine ev_get frX11_50 dX11_headway_18 dm0_0 en0_0 rfl ?_
  refine ev_callVV (As := [iv v1, iv v2, rr G 5 0 0]) (st := []) mfX4_listPassages mlX11_233 dX11_headway_21 rfl (dom1 (by decide) (by decide) (by decide) (by decide)) en1_0 rfl rfl rfl (by decide) (by decide) (by decide) (Nat.le_of_ble_eq_true rfl) (fun _ _ z => z.elim) h5 (fun M7 h8 => ?_)
  refine ev_aload_n (j := 0) dX11_headway_24 rfl rfl ?_
  refine ev_get frX11_50 dX11_headway_25 dm0_0 en0_0 rfl ?_
  refine ev_get frX11_237 dX11_headway_28 (dom5 (by decide) (by decide) (by decide) (by decide)) en5_0 rfl ?_
  refine ev_iconst dX11_headway_31 ?_
  obtain ⟨s10, h11⟩ := h8
  obtain ⟨h12, h13⟩ := h11
  refine ev_icmp_ge 45 dX11_headway_32 (by decide) s10 ⟨by decide, by decide⟩ (fun c14 => ?_) (fun c14 => ?_)
  · have h15 := h12 c14
    refine ev_iload_n (j := 3) dX11_headway_45 rfl rfl ?_
    obtain ⟨s16, h17⟩ := h15
    obtain ⟨h18, h19⟩ := h17
    refine ev_if_eq 59 dX11_headway_46 (by decide) s16 (fun c20 => ?_) (fun c20 => ?_)
    · have h21 := h18 c20
      refine ev_aload_n (j := 0) dX11_headway_59 rfl rfl ?_
      refine ev_get frX11_50 dX11_headway_60 dm0_0 en0_0 rfl ?_
      refine ev_callVI (As := []) (st := []) mfX7_leastHeadway mlX11_254 dX11_headway_63 rfl (dom5 (by decide) (by decide) (by decide) (by decide)) en5_0 rfl rfl rfl (by decide) (by decide) (by decide) (Nat.le_of_ble_eq_true rfl) (fun _ _ z => z.elim) h21 (fun x24 M22 h23 => ?_)
      exact ev_iret dX11_headway_66 (by decide) rfl h23
    · have h25 := h19 c20
      refine ev_aload_n (j := 0) dX11_headway_49 rfl rfl ?_
      refine ev_get frX11_50 dX11_headway_50 dm0_0 en0_0 rfl ?_
      refine ev_callVI (As := []) (st := []) mfX7_greatestHeadway mlX11_251 dX11_headway_53 rfl (dom5 (by decide) (by decide) (by decide) (by decide)) en5_0 rfl rfl rfl (by decide) (by decide) (by decide) (Nat.le_of_ble_eq_true rfl) (fun _ _ z => z.elim) h25 (fun x28 M26 h27 => ?_)
      refine ev_goto 66 dX11_headway_56 (by decide) ?_
      exact ev_iret dX11_headway_66 (by decide) rfl h27
  · have h29 := h13 c14
    exact thrX11_headway_35 (by decide) h29
def eX11_leaving (G : GT) (K : List Value → Mem → Prop) (X : String → Mem → Prop) (pc : Nat) (lv : List (Nat × Value)) (st : List Value) (M : Mem) : Prop := Ex G zX11_leaving 9 2 K X 0 pc lv st M
set_option maxRecDepth 20000 in
set_option maxHeartbeats 4000000 in
theorem bX11_leaving {G : GT} {K : List Value → Mem → Prop} {X : String → Mem → Prop} {M : Mem} {v1 v2 : Int} (h : Call G 8 1 zX11_requireIndex [iv v1, iv 2] M (kV (fun M1 => Call G 1 0 zX4_listLeaving [rr G 1 0 0, iv v1, rr G 5 0 0] M1 (kV (fun M4 => I32 v2 ∧ ((v2 < 0 → X "java/util/NoSuchElementException" M4) ∧ (¬ v2 < 0 → I32 (M4 5 0 0 2) ∧ ((v2 < (M4 5 0 0 2) → 0 ≤ v2 ∧ v2 < 30 ∧ K [iv (M4 5 0 2 v2)] M4) ∧ (¬ v2 < (M4 5 0 0 2) → X "java/util/NoSuchElementException" M4)))))) noX)) X) : Call G 9 2 zX11_leaving [rr G 0 0 0, iv v1, iv v2] M K X := by
  refine call_intro (lv := [(0, rr G 0 0 0), (1, iv v1), (2, iv v2)]) (by decide) rfl (Nat.le_of_ble_eq_true rfl) rfl ?_
  refine ev_iload_n (j := 1) dX11_leaving_0 rfl rfl ?_
  refine ev_iconst dX11_leaving_1 ?_
  refine ev_callSV (As := [iv v1, iv 2]) (st := []) mfX11_requireIndex mlX11_65 dX11_leaving_2 rfl rfl (by decide) (by decide) (by decide) (Nat.le_of_ble_eq_true rfl) (fun _ _ z => z) h (fun M1 h2 => ?_)
  refine ev_aload_n (j := 0) dX11_leaving_5 rfl rfl ?_
  refine ev_get frX11_10 dX11_leaving_6 dm0_0 en0_0 rfl ?_
  refine ev_iload_n (j := 1) dX11_leaving_9 rfl rfl ?_
  refine ev_aload_n (j := 0) dX11_leaving_10 rfl rfl ?_
  refine ev_get frX11_50 dX11_leaving_11 dm0_0 en0_0 rfl ?_
  refine ev_callVV (As := [iv v1, rr G 5 0 0]) (st := []) mfX4_listLeaving mlX11_333 dX11_leaving_14 rfl (dom1 (by decide) (by decide) (by decide) (by decide)) en1_0 rfl rfl rfl (by decide) (by decide) (by decide) (Nat.le_of_ble_eq_true rfl) (fun _ _ z => z.elim) h2 (fun M4 h5 => ?_)
  refine ev_iload_n (j := 2) dX11_leaving_17 rfl rfl ?_
  obtain ⟨s7, h8⟩ := h5
  obtain ⟨h9, h10⟩ := h8
  refine ev_if_lt 32 dX11_leaving_18 (by decide) s7 (fun c11 => ?_) (fun c11 => ?_)
  · have h12 := h9 c11
    exact thrX11_leaving_32 (by decide) h12
  · have h13 := h10 c11
    refine ev_iload_n (j := 2) dX11_leaving_21 rfl rfl ?_
    refine ev_aload_n (j := 0) dX11_leaving_22 rfl rfl ?_
    refine ev_get frX11_50 dX11_leaving_23 dm0_0 en0_0 rfl ?_
    refine ev_get frX11_237 dX11_leaving_26 (dom5 (by decide) (by decide) (by decide) (by decide)) en5_0 rfl ?_
    obtain ⟨s14, h15⟩ := h13
    obtain ⟨h16, h17⟩ := h15
    refine ev_icmp_lt 43 dX11_leaving_29 (by decide) s7 s14 (fun c18 => ?_) (fun c18 => ?_)
    · have h19 := h16 c18
      refine ev_aload_n (j := 0) dX11_leaving_43 rfl rfl ?_
      refine ev_get frX11_50 dX11_leaving_44 dm0_0 en0_0 rfl ?_
      refine ev_get frX11_242 dX11_leaving_47 (dom5 (by decide) (by decide) (by decide) (by decide)) en5_0 rfl ?_
      refine ev_iload_n (j := 2) dX11_leaving_50 rfl rfl ?_
      obtain ⟨s20, s21, h22⟩ := h19
      refine ev_iald dX11_leaving_51 (dom5 (by decide) (by decide) (by decide) (by decide)) ar5_2 (by decide) s20 s21 ?_
      exact ev_iret dX11_leaving_52 (by decide) rfl h22
    · have h23 := h17 c18
      exact thrX11_leaving_32 (by decide) h23
def eX11_nextTrip (G : GT) (K : List Value → Mem → Prop) (X : String → Mem → Prop) (pc : Nat) (lv : List (Nat × Value)) (st : List Value) (M : Mem) : Prop := Ex G zX11_nextTrip 9 2 K X 0 pc lv st M
set_option maxRecDepth 20000 in
set_option maxHeartbeats 4000000 in
theorem bX11_nextTrip {G : GT} {K : List Value → Mem → Prop} {X : String → Mem → Prop} {M : Mem} {v1 : Int} (h : Call G 8 1 zX11_requireIndex [iv v1, iv (M 1 0 6 4)] M (kV (fun M1 => Call G 3 0 zX4_soonestBehind [rr G 1 0 0, iv v1] M1 (kI (fun x6 M4 => I32 x6 ∧ ((¬ x6 = (-1) → K [iv x6] M4) ∧ (x6 = (-1) → X "java/util/NoSuchElementException" M4)))) noX)) X) : Call G 9 2 zX11_nextTrip [rr G 0 0 0, iv v1] M K X := by
  refine call_intro (lv := [(0, rr G 0 0 0), (1, iv v1)]) (by decide) rfl (Nat.le_of_ble_eq_true rfl) rfl ?_
  refine ev_iload_n (j := 1) dX11_nextTrip_0 rfl rfl ?_
  refine ev_aload_n (j := 0) dX11_nextTrip_1 rfl rfl ?_
  refine ev_get frX11_10 dX11_nextTrip_2 dm0_0 en0_0 rfl ?_
  refine ev_get frX11_114 dX11_nextTrip_5 (dom1 (by decide) (by decide) (by decide) (by decide)) en1_0 rfl ?_
  refine ev_get frX11_149 dX11_nextTrip_8 (dom1 (by decide) (by decide) (by decide) (by decide)) en1_6 rfl ?_
  refine ev_callSV (As := [iv v1, iv (M 1 0 6 4)]) (st := []) mfX11_requireIndex mlX11_65 dX11_nextTrip_11 rfl rfl (by decide) (by decide) (by decide) (Nat.le_of_ble_eq_true rfl) (fun _ _ z => z) h (fun M1 h2 => ?_)
  refine ev_aload_n (j := 0) dX11_nextTrip_14 rfl rfl ?_
  refine ev_get frX11_10 dX11_nextTrip_15 dm0_0 en0_0 rfl ?_
  refine ev_iload_n (j := 1) dX11_nextTrip_18 rfl rfl ?_
  refine ev_callVI (As := [iv v1]) (st := []) mfX4_soonestBehind mlX11_417 dX11_nextTrip_19 rfl (dom1 (by decide) (by decide) (by decide) (by decide)) en1_0 rfl rfl rfl (by decide) (by decide) (by decide) (Nat.le_of_ble_eq_true rfl) (fun _ _ z => z.elim) h2 (fun x6 M4 h5 => ?_)
  refine ev_istore_n dX11_nextTrip_22 rfl (by decide) rfl ?_
  refine ev_iload_n (j := 0) dX11_nextTrip_23 rfl rfl ?_
  refine ev_iconst dX11_nextTrip_24 ?_
  obtain ⟨s7, h8⟩ := h5
  obtain ⟨h9, h10⟩ := h8
  refine ev_icmp_ne 39 dX11_nextTrip_25 (by decide) s7 ⟨by decide, by decide⟩ (fun c11 => ?_) (fun c11 => ?_)
  · have h12 := h9 c11
    refine ev_iload_n (j := 0) dX11_nextTrip_39 rfl rfl ?_
    exact ev_iret dX11_nextTrip_40 (by decide) rfl h12
  · have h13 := h10 c11
    exact thrX11_nextTrip_28 (by decide) h13
def eX11_passage (G : GT) (K : List Value → Mem → Prop) (X : String → Mem → Prop) (pc : Nat) (lv : List (Nat × Value)) (st : List Value) (M : Mem) : Prop := Ex G zX11_passage 9 3 K X 0 pc lv st M
set_option maxRecDepth 20000 in
set_option maxHeartbeats 4000000 in
theorem bX11_passage {G : GT} {K : List Value → Mem → Prop} {X : String → Mem → Prop} {M : Mem} {v1 v2 v3 v4 : Int} (h : Call G 8 1 zX11_requireIndex [iv v1, iv 2] M (kV (fun M1 => Call G 8 1 zX11_requireIndex [iv v2, iv 12] M1 (kV (fun M4 => Call G 2 0 zX4_listPassages [rr G 1 0 0, iv v1, iv v2, rr G 5 0 0] M4 (kV (fun M7 => I32 v3 ∧ ((v3 < 0 → X "java/util/NoSuchElementException" M7) ∧ (¬ v3 < 0 → I32 (M7 5 0 0 2) ∧ ((v3 < (M7 5 0 0 2) → I32 v4 ∧ ((v4 = 0 → 0 ≤ v3 ∧ v3 < 30 ∧ K [iv (M7 5 0 1 v3)] M7) ∧ (¬ v4 = 0 → 0 ≤ v3 ∧ v3 < 30 ∧ K [iv (M7 5 0 2 v3)] M7))) ∧ (¬ v3 < (M7 5 0 0 2) → X "java/util/NoSuchElementException" M7)))))) noX)) X)) X) : Call G 9 3 zX11_passage [rr G 0 0 0, iv v1, iv v2, iv v3, iv v4] M K X := by
  refine call_intro (lv := [(0, rr G 0 0 0), (1, iv v1), (2, iv v2), (3, iv v3), (4, iv v4)]) (by decide) rfl (Nat.le_of_ble_eq_true rfl) rfl ?_
  refine ev_iload_n (j := 1) dX11_passage_0 rfl rfl ?_
  refine ev_iconst dX11_passage_1 ?_
  refine ev_callSV (As := [iv v1, iv 2]) (st := []) mfX11_requireIndex mlX11_65 dX11_passage_2 rfl rfl (by decide) (by decide) (by decide) (Nat.le_of_ble_eq_true rfl) (fun _ _ z => z) h (fun M1 h2 => ?_)
  refine ev_iload_n (j := 2) dX11_passage_5 rfl rfl ?_
  refine ev_bipush dX11_passage_6 (by decide) ?_
  refine ev_callSV (As := [iv v2, iv 12]) (st := []) mfX11_requireIndex mlX11_65 dX11_passage_8 rfl rfl (by decide) (by decide) (by decide) (Nat.le_of_ble_eq_true rfl) (fun _ _ z => z) h2 (fun M4 h5 => ?_)
  refine ev_aload_n (j := 0) dX11_passage_11 rfl rfl ?_
  refine ev_get frX11_10 dX11_passage_12 dm0_0 en0_0 rfl ?_
  refine ev_iload_n (j := 1) dX11_passage_15 rfl rfl ?_
  refine ev_iload_n (j := 2) dX11_passage_16 rfl rfl ?_
  refine ev_aload_n (j := 0) dX11_passage_17 rfl rfl ?_
  refine ev_get frX11_50 dX11_passage_18 dm0_0 en0_0 rfl ?_
  refine ev_callVV (As := [iv v1, iv v2, rr G 5 0 0]) (st := []) mfX4_listPassages mlX11_233 dX11_passage_21 rfl (dom1 (by decide) (by decide) (by decide) (by decide)) en1_0 rfl rfl rfl (by decide) (by decide) (by decide) (Nat.le_of_ble_eq_true rfl) (fun _ _ z => z.elim) h5 (fun M7 h8 => ?_)
  refine ev_iload_n (j := 3) dX11_passage_24 rfl rfl ?_
  obtain ⟨s10, h11⟩ := h8
  obtain ⟨h12, h13⟩ := h11
  refine ev_if_lt 39 dX11_passage_25 (by decide) s10 (fun c14 => ?_) (fun c14 => ?_)
  · have h15 := h12 c14
    exact thrX11_passage_39 (by decide) h15
  · have h16 := h13 c14
    refine ev_iload_n (j := 3) dX11_passage_28 rfl rfl ?_
    refine ev_aload_n (j := 0) dX11_passage_29 rfl rfl ?_
    refine ev_get frX11_50 dX11_passage_30 dm0_0 en0_0 rfl ?_
    refine ev_get frX11_237 dX11_passage_33 (dom5 (by decide) (by decide) (by decide) (by decide)) en5_0 rfl ?_
    obtain ⟨s17, h18⟩ := h16
    obtain ⟨h19, h20⟩ := h18
    refine ev_icmp_lt 49 dX11_passage_36 (by decide) s10 s17 (fun c21 => ?_) (fun c21 => ?_)
    · have h22 := h19 c21
      refine ev_iload (j := 4) dX11_passage_49 rfl ?_
      obtain ⟨s23, h24⟩ := h22
      obtain ⟨h25, h26⟩ := h24
      refine ev_if_eq 66 dX11_passage_51 (by decide) s23 (fun c27 => ?_) (fun c27 => ?_)
      · have h28 := h25 c27
        refine ev_aload_n (j := 0) dX11_passage_66 rfl rfl ?_
        refine ev_get frX11_50 dX11_passage_67 dm0_0 en0_0 rfl ?_
        refine ev_get frX11_245 dX11_passage_70 (dom5 (by decide) (by decide) (by decide) (by decide)) en5_0 rfl ?_
        refine ev_iload_n (j := 3) dX11_passage_73 rfl rfl ?_
        obtain ⟨s29, s30, h31⟩ := h28
        refine ev_iald dX11_passage_74 (dom5 (by decide) (by decide) (by decide) (by decide)) ar5_1 (by decide) s29 s30 ?_
        exact ev_iret dX11_passage_75 (by decide) rfl h31
      · have h32 := h26 c27
        refine ev_aload_n (j := 0) dX11_passage_54 rfl rfl ?_
        refine ev_get frX11_50 dX11_passage_55 dm0_0 en0_0 rfl ?_
        refine ev_get frX11_242 dX11_passage_58 (dom5 (by decide) (by decide) (by decide) (by decide)) en5_0 rfl ?_
        refine ev_iload_n (j := 3) dX11_passage_61 rfl rfl ?_
        obtain ⟨s33, s34, h35⟩ := h32
        refine ev_iald dX11_passage_62 (dom5 (by decide) (by decide) (by decide) (by decide)) ar5_2 (by decide) s33 s34 ?_
        refine ev_goto 75 dX11_passage_63 (by decide) ?_
        exact ev_iret dX11_passage_75 (by decide) rfl h35
    · have h36 := h20 c21
      exact thrX11_passage_39 (by decide) h36
def eX11_planned (G : GT) (K : List Value → Mem → Prop) (X : String → Mem → Prop) (pc : Nat) (lv : List (Nat × Value)) (st : List Value) (M : Mem) : Prop := Ex G zX11_planned 9 2 K X 0 pc lv st M
set_option maxRecDepth 20000 in
set_option maxHeartbeats 4000000 in
theorem bX11_planned {G : GT} {K : List Value → Mem → Prop} {X : String → Mem → Prop} {M : Mem} {v1 v2 : Int} (h : Call G 8 1 zX11_requireIndex [iv v1, iv (M 1 0 6 4)] M (kV (fun M1 => Call G 1 0 zX8_isOnWay [rr G 1 0 6, iv v1, iv v2] M1 (kI (fun x6 M4 => I32 x6 ∧ ((¬ x6 = 0 → Call G 1 0 zX4_timeAt [rr G 1 0 0, iv v1, iv v2] M4 (kI (fun x15 M13 => K [iv x15] M13)) noX) ∧ (x6 = 0 → X "java/util/NoSuchElementException" M4)))) noX)) X) : Call G 9 2 zX11_planned [rr G 0 0 0, iv v1, iv v2] M K X := by
  refine call_intro (lv := [(0, rr G 0 0 0), (1, iv v1), (2, iv v2)]) (by decide) rfl (Nat.le_of_ble_eq_true rfl) rfl ?_
  refine ev_iload_n (j := 1) dX11_planned_0 rfl rfl ?_
  refine ev_aload_n (j := 0) dX11_planned_1 rfl rfl ?_
  refine ev_get frX11_10 dX11_planned_2 dm0_0 en0_0 rfl ?_
  refine ev_get frX11_114 dX11_planned_5 (dom1 (by decide) (by decide) (by decide) (by decide)) en1_0 rfl ?_
  refine ev_get frX11_149 dX11_planned_8 (dom1 (by decide) (by decide) (by decide) (by decide)) en1_6 rfl ?_
  refine ev_callSV (As := [iv v1, iv (M 1 0 6 4)]) (st := []) mfX11_requireIndex mlX11_65 dX11_planned_11 rfl rfl (by decide) (by decide) (by decide) (Nat.le_of_ble_eq_true rfl) (fun _ _ z => z) h (fun M1 h2 => ?_)
  refine ev_aload_n (j := 0) dX11_planned_14 rfl rfl ?_
  refine ev_get frX11_10 dX11_planned_15 dm0_0 en0_0 rfl ?_
  refine ev_get frX11_114 dX11_planned_18 (dom1 (by decide) (by decide) (by decide) (by decide)) en1_0 rfl ?_
  refine ev_iload_n (j := 1) dX11_planned_21 rfl rfl ?_
  refine ev_iload_n (j := 2) dX11_planned_22 rfl rfl ?_
  refine ev_callVI (As := [iv v1, iv v2]) (st := []) mfX8_isOnWay mlX11_197 dX11_planned_23 rfl (dom1 (by decide) (by decide) (by decide) (by decide)) en1_6 rfl rfl rfl (by decide) (by decide) (by decide) (Nat.le_of_ble_eq_true rfl) (fun _ _ z => z.elim) h2 (fun x6 M4 h5 => ?_)
  obtain ⟨s7, h8⟩ := h5
  obtain ⟨h9, h10⟩ := h8
  refine ev_if_ne 39 dX11_planned_26 (by decide) s7 (fun c11 => ?_) (fun c11 => ?_)
  · have h12 := h9 c11
    refine ev_aload_n (j := 0) dX11_planned_39 rfl rfl ?_
    refine ev_get frX11_10 dX11_planned_40 dm0_0 en0_0 rfl ?_
    refine ev_iload_n (j := 1) dX11_planned_43 rfl rfl ?_
    refine ev_iload_n (j := 2) dX11_planned_44 rfl rfl ?_
    refine ev_callVI (As := [iv v1, iv v2]) (st := []) mfX4_timeAt mlX11_206 dX11_planned_45 rfl (dom1 (by decide) (by decide) (by decide) (by decide)) en1_0 rfl rfl rfl (by decide) (by decide) (by decide) (Nat.le_of_ble_eq_true rfl) (fun _ _ z => z.elim) h12 (fun x15 M13 h14 => ?_)
    exact ev_iret dX11_planned_48 (by decide) rfl h14
  · have h16 := h10 c11
    exact thrX11_planned_29 (by decide) h16
def eX11_refusal (G : GT) (K : List Value → Mem → Prop) (X : String → Mem → Prop) (pc : Nat) (lv : List (Nat × Value)) (st : List Value) (M : Mem) : Prop := Ex G zX11_refusal 8 1 K X 0 pc lv st M
set_option maxRecDepth 20000 in
set_option maxHeartbeats 4000000 in
theorem bX11_refusal {G : GT} {K : List Value → Mem → Prop} {X : String → Mem → Prop} {M : Mem} (h : I32 (M 0 0 0 8) ∧ ((¬ (M 0 0 0 8) = (-1) → K [iv (M 0 0 0 8)] M) ∧ ((M 0 0 0 8) = (-1) → X "java/util/NoSuchElementException" M))) : Call G 8 1 zX11_refusal [rr G 0 0 0] M K X := by
  refine call_intro (lv := [(0, rr G 0 0 0)]) (by decide) rfl (Nat.le_of_ble_eq_true rfl) rfl ?_
  refine ev_aload_n (j := 0) dX11_refusal_0 rfl rfl ?_
  refine ev_get frX11_61 dX11_refusal_1 dm0_0 en0_0 rfl ?_
  refine ev_iconst dX11_refusal_4 ?_
  obtain ⟨s1, h2⟩ := h
  obtain ⟨h3, h4⟩ := h2
  refine ev_icmp_ne 19 dX11_refusal_5 (by decide) s1 ⟨by decide, by decide⟩ (fun c5 => ?_) (fun c5 => ?_)
  · have h6 := h3 c5
    refine ev_aload_n (j := 0) dX11_refusal_19 rfl rfl ?_
    refine ev_get frX11_61 dX11_refusal_20 dm0_0 en0_0 rfl ?_
    exact ev_iret dX11_refusal_23 (by decide) rfl h6
  · have h7 := h4 c5
    exact thrX11_refusal_8 (by decide) h7
def eX11_take (G : GT) (K : List Value → Mem → Prop) (X : String → Mem → Prop) (pc : Nat) (lv : List (Nat × Value)) (st : List Value) (M : Mem) : Prop := Ex G zX11_take 9 2 K X 0 pc lv st M
set_option maxRecDepth 20000 in
set_option maxHeartbeats 4000000 in
theorem bX11_take {G : GT} {K : List Value → Mem → Prop} {X : String → Mem → Prop} {M : Mem} {v1 : Int} (h : Call G 8 1 zX11_requireIndex [iv v1, iv (M 1 0 11 3)] M (kV (fun M1 => Call G 0 0 zX2_lastTripOf [rr G 1 0 11, iv v1] M1 (kI (fun x6 M4 => I32 x6 ∧ ((¬ x6 = (-1) → Call G 3 0 zX3_keep [rr G 2 0 0, rr G 1 0 0] M4 (kV (fun M13 => Call G 2 0 zX2_takeOutFrom [rr G 1 0 11, iv x6] M13 (kV (fun M16 => K [iv x6] M16)) noX)) noX) ∧ (x6 = (-1) → X "java/util/NoSuchElementException" M4)))) noX)) X) : Call G 9 2 zX11_take [rr G 0 0 0, iv v1] M K X := by
  refine call_intro (lv := [(0, rr G 0 0 0), (1, iv v1)]) (by decide) rfl (Nat.le_of_ble_eq_true rfl) rfl ?_
  refine ev_iload_n (j := 1) dX11_take_0 rfl rfl ?_
  refine ev_aload_n (j := 0) dX11_take_1 rfl rfl ?_
  refine ev_get frX11_10 dX11_take_2 dm0_0 en0_0 rfl ?_
  refine ev_get frX11_166 dX11_take_5 (dom1 (by decide) (by decide) (by decide) (by decide)) en1_0 rfl ?_
  refine ev_get frX11_217 dX11_take_8 (dom1 (by decide) (by decide) (by decide) (by decide)) en1_11 rfl ?_
  refine ev_callSV (As := [iv v1, iv (M 1 0 11 3)]) (st := []) mfX11_requireIndex mlX11_65 dX11_take_11 rfl rfl (by decide) (by decide) (by decide) (Nat.le_of_ble_eq_true rfl) (fun _ _ z => z) h (fun M1 h2 => ?_)
  refine ev_aload_n (j := 0) dX11_take_14 rfl rfl ?_
  refine ev_get frX11_10 dX11_take_15 dm0_0 en0_0 rfl ?_
  refine ev_get frX11_166 dX11_take_18 (dom1 (by decide) (by decide) (by decide) (by decide)) en1_0 rfl ?_
  refine ev_iload_n (j := 1) dX11_take_21 rfl rfl ?_
  refine ev_callVI (As := [iv v1]) (st := []) mfX2_lastTripOf mlX11_290 dX11_take_22 rfl (dom1 (by decide) (by decide) (by decide) (by decide)) en1_11 rfl rfl rfl (by decide) (by decide) (by decide) (Nat.le_of_ble_eq_true rfl) (fun _ _ z => z.elim) h2 (fun x6 M4 h5 => ?_)
  refine ev_istore_n dX11_take_25 rfl (by decide) rfl ?_
  refine ev_iload_n (j := 0) dX11_take_26 rfl rfl ?_
  refine ev_iconst dX11_take_27 ?_
  obtain ⟨s7, h8⟩ := h5
  obtain ⟨h9, h10⟩ := h8
  refine ev_icmp_ne 42 dX11_take_28 (by decide) s7 ⟨by decide, by decide⟩ (fun c11 => ?_) (fun c11 => ?_)
  · have h12 := h9 c11
    refine ev_aload_n (j := 1) dX11_take_42 rfl rfl ?_
    refine ev_get frX11_22 dX11_take_43 dm0_0 en0_0 rfl ?_
    refine ev_aload_n (j := 1) dX11_take_46 rfl rfl ?_
    refine ev_get frX11_10 dX11_take_47 dm0_0 en0_0 rfl ?_
    refine ev_callVV (As := [rr G 1 0 0]) (st := []) mfX3_keep mlX11_130 dX11_take_50 rfl dm2_0 en2_0 rfl rfl rfl (by decide) (by decide) (by decide) (Nat.le_of_ble_eq_true rfl) (fun _ _ z => z.elim) h12 (fun M13 h14 => ?_)
    refine ev_aload_n (j := 1) dX11_take_53 rfl rfl ?_
    refine ev_get frX11_10 dX11_take_54 dm0_0 en0_0 rfl ?_
    refine ev_get frX11_166 dX11_take_57 (dom1 (by decide) (by decide) (by decide) (by decide)) en1_0 rfl ?_
    refine ev_iload_n (j := 0) dX11_take_60 rfl rfl ?_
    refine ev_callVV (As := [iv x6]) (st := []) mfX2_takeOutFrom mlX11_170 dX11_take_61 rfl (dom1 (by decide) (by decide) (by decide) (by decide)) en1_11 rfl rfl rfl (by decide) (by decide) (by decide) (Nat.le_of_ble_eq_true rfl) (fun _ _ z => z.elim) h14 (fun M16 h17 => ?_)
    refine ev_iload_n (j := 0) dX11_take_64 rfl rfl ?_
    exact ev_iret dX11_take_65 (by decide) rfl h17
  · have h19 := h10 c11
    exact thrX11_take_31 (by decide) h19
