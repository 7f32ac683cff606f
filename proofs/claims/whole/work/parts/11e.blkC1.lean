/-! blocks of TramLines, first half (by program) -/
def eX11_actualBunches (G : GT) (K : List Value → Mem → Prop) (X : String → Mem → Prop) (pc : Nat) (lv : List (Nat × Value)) (st : List Value) (M : Mem) : Prop := Ex G zX11_actualBunches 9 2 K X 0 pc lv st M
set_option maxRecDepth 20000 in
set_option maxHeartbeats 4000000 in
theorem bX11_actualBunches {G : GT} {K : List Value → Mem → Prop} {X : String → Mem → Prop} {M : Mem} {v1 v2 : Int} (h : Call G 8 1 zX11_requireIndex [iv v1, iv 2] M (kV (fun M1 => Call G 8 1 zX11_requireIndex [iv v2, iv 12] M1 (kV (fun M4 => Call G 4 0 zX1_pass [rr G 3 0 0, rr G 1 0 0] M4 (kV (fun M7 => Call G 1 0 zX1_listDepartures [rr G 3 0 0, iv v1, iv v2, rr G 5 0 0] M7 (kV (fun M10 => Call G 0 0 zX7_headwaysBelow [rr G 5 0 0, iv (M10 1 0 5 1)] M10 (kI (fun x15 M13 => K [iv x15] M13)) noX)) noX)) noX)) X)) X) : Call G 9 2 zX11_actualBunches [rr G 0 0 0, iv v1, iv v2] M K X := by
  refine call_intro (lv := [(0, rr G 0 0 0), (1, iv v1), (2, iv v2)]) (by decide) rfl (Nat.le_of_ble_eq_true rfl) rfl ?_
  refine ev_iload_n (j := 1) dX11_actualBunches_0 rfl rfl ?_
  refine ev_iconst dX11_actualBunches_1 ?_
  refine ev_callSV (As := [iv v1, iv 2]) (st := []) mfX11_requireIndex mlX11_65 dX11_actualBunches_2 rfl rfl (by decide) (by decide) (by decide) (Nat.le_of_ble_eq_true rfl) (fun _ _ z => z) h (fun M1 h2 => ?_)
  refine ev_iload_n (j := 2) dX11_actualBunches_5 rfl rfl ?_
  refine ev_bipush dX11_actualBunches_6 (by decide) ?_
  refine ev_callSV (As := [iv v2, iv 12]) (st := []) mfX11_requireIndex mlX11_65 dX11_actualBunches_8 rfl rfl (by decide) (by decide) (by decide) (Nat.le_of_ble_eq_true rfl) (fun _ _ z => z) h2 (fun M4 h5 => ?_)
  refine ev_aload_n (j := 0) dX11_actualBunches_11 rfl rfl ?_
  refine ev_get frX11_29 dX11_actualBunches_12 dm0_0 en0_0 rfl ?_
  refine ev_aload_n (j := 0) dX11_actualBunches_15 rfl rfl ?_
  refine ev_get frX11_10 dX11_actualBunches_16 dm0_0 en0_0 rfl ?_
  refine ev_callVV (As := [rr G 1 0 0]) (st := []) mfX1_pass mlX11_349 dX11_actualBunches_19 rfl dm3_0 en3_0 rfl rfl rfl (by decide) (by decide) (by decide) (Nat.le_of_ble_eq_true rfl) (fun _ _ z => z.elim) h5 (fun M7 h8 => ?_)
  refine ev_aload_n (j := 0) dX11_actualBunches_22 rfl rfl ?_
  refine ev_get frX11_29 dX11_actualBunches_23 dm0_0 en0_0 rfl ?_
  refine ev_iload_n (j := 1) dX11_actualBunches_26 rfl rfl ?_
  refine ev_iload_n (j := 2) dX11_actualBunches_27 rfl rfl ?_
  refine ev_aload_n (j := 0) dX11_actualBunches_28 rfl rfl ?_
  refine ev_get frX11_50 dX11_actualBunches_29 dm0_0 en0_0 rfl ?_
  refine ev_callVV (As := [iv v1, iv v2, rr G 5 0 0]) (st := []) mfX1_listDepartures mlX11_387 dX11_actualBunches_32 rfl dm3_0 en3_0 rfl rfl rfl (by decide) (by decide) (by decide) (Nat.le_of_ble_eq_true rfl) (fun _ _ z => z.elim) h8 (fun M10 h11 => ?_)
  refine ev_aload_n (j := 0) dX11_actualBunches_35 rfl rfl ?_
  refine ev_get frX11_50 dX11_actualBunches_36 dm0_0 en0_0 rfl ?_
  refine ev_aload_n (j := 0) dX11_actualBunches_39 rfl rfl ?_
  refine ev_get frX11_10 dX11_actualBunches_40 dm0_0 en0_0 rfl ?_
  refine ev_get frX11_80 dX11_actualBunches_43 (dom1 (by decide) (by decide) (by decide) (by decide)) en1_0 rfl ?_
  refine ev_get frX11_141 dX11_actualBunches_46 (dom1 (by decide) (by decide) (by decide) (by decide)) en1_1 rfl ?_
  refine ev_iconst dX11_actualBunches_49 ?_
  refine ev_iald dX11_actualBunches_50 (dom1 (by decide) (by decide) (by decide) (by decide)) ar1_5 (by decide) (by decide) (by decide) ?_
  refine ev_callVI (As := [iv (M10 1 0 5 1)]) (st := []) mfX7_headwaysBelow mlX11_246 dX11_actualBunches_51 rfl (dom5 (by decide) (by decide) (by decide) (by decide)) en5_0 rfl rfl rfl (by decide) (by decide) (by decide) (Nat.le_of_ble_eq_true rfl) (fun _ _ z => z.elim) h11 (fun x15 M13 h14 => ?_)
  exact ev_iret dX11_actualBunches_54 (by decide) rfl h14
def eX11_addTrip (G : GT) (K : List Value → Mem → Prop) (X : String → Mem → Prop) (pc : Nat) (lv : List (Nat × Value)) (st : List Value) (M : Mem) : Prop := Ex G zX11_addTrip 9 3 K X 0 pc lv st M
set_option maxRecDepth 20000 in
set_option maxHeartbeats 4000000 in
theorem bX11_addTrip {G : GT} {K : List Value → Mem → Prop} {X : String → Mem → Prop} {M : Mem} {v1 v2 v3 : Int} (h : Call G 8 1 zX11_requireIndex [iv v1, iv 12] M (kV (fun M1 => Call G 8 1 zX11_requireIndex [iv v2, iv 12] M1 (kV (fun M4 => Call G 1 0 zX4_isTripAllowed [rr G 1 0 0, iv v1, iv v2, iv v3] M4 (kI (fun x9 M7 => I32 x9 ∧ ((¬ x9 = 0 → I32 (M7 1 0 6 4) ∧ (((M7 1 0 6 4) < 30 → Call G 3 0 zX3_keep [rr G 2 0 0, rr G 1 0 0] M7 (kV (fun M22 => Call G 0 0 zX8_addActive [rr G 1 0 6, iv v1, iv v2, iv v3] M22 (kI (fun x27 M25 => K [iv x27] M25)) noX)) noX) ∧ (¬ (M7 1 0 6 4) < 30 → X "java/lang/IllegalStateException" M7))) ∧ (x9 = 0 → X "java/lang/IllegalArgumentException" M7)))) noX)) X)) X) : Call G 9 3 zX11_addTrip [rr G 0 0 0, iv v1, iv v2, iv v3] M K X := by
  refine call_intro (lv := [(0, rr G 0 0 0), (1, iv v1), (2, iv v2), (3, iv v3)]) (by decide) rfl (Nat.le_of_ble_eq_true rfl) rfl ?_
  refine ev_iload_n (j := 1) dX11_addTrip_0 rfl rfl ?_
  refine ev_bipush dX11_addTrip_1 (by decide) ?_
  refine ev_callSV (As := [iv v1, iv 12]) (st := []) mfX11_requireIndex mlX11_65 dX11_addTrip_3 rfl rfl (by decide) (by decide) (by decide) (Nat.le_of_ble_eq_true rfl) (fun _ _ z => z) h (fun M1 h2 => ?_)
  refine ev_iload_n (j := 2) dX11_addTrip_6 rfl rfl ?_
  refine ev_bipush dX11_addTrip_7 (by decide) ?_
  refine ev_callSV (As := [iv v2, iv 12]) (st := []) mfX11_requireIndex mlX11_65 dX11_addTrip_9 rfl rfl (by decide) (by decide) (by decide) (Nat.le_of_ble_eq_true rfl) (fun _ _ z => z) h2 (fun M4 h5 => ?_)
  refine ev_aload_n (j := 0) dX11_addTrip_12 rfl rfl ?_
  refine ev_get frX11_10 dX11_addTrip_13 dm0_0 en0_0 rfl ?_
  refine ev_iload_n (j := 1) dX11_addTrip_16 rfl rfl ?_
  refine ev_iload_n (j := 2) dX11_addTrip_17 rfl rfl ?_
  refine ev_iload_n (j := 3) dX11_addTrip_18 rfl rfl ?_
  refine ev_callVI (As := [iv v1, iv v2, iv v3]) (st := []) mfX4_isTripAllowed mlX11_144 dX11_addTrip_19 rfl (dom1 (by decide) (by decide) (by decide) (by decide)) en1_0 rfl rfl rfl (by decide) (by decide) (by decide) (Nat.le_of_ble_eq_true rfl) (fun _ _ z => z.elim) h5 (fun x9 M7 h8 => ?_)
  obtain ⟨s10, h11⟩ := h8
  obtain ⟨h12, h13⟩ := h11
  refine ev_if_ne 35 dX11_addTrip_22 (by decide) s10 (fun c14 => ?_) (fun c14 => ?_)
  · have h15 := h12 c14
    refine ev_aload_n (j := 0) dX11_addTrip_35 rfl rfl ?_
    refine ev_get frX11_10 dX11_addTrip_36 dm0_0 en0_0 rfl ?_
    refine ev_get frX11_114 dX11_addTrip_39 (dom1 (by decide) (by decide) (by decide) (by decide)) en1_0 rfl ?_
    refine ev_get frX11_149 dX11_addTrip_42 (dom1 (by decide) (by decide) (by decide) (by decide)) en1_6 rfl ?_
    refine ev_bipush dX11_addTrip_45 (by decide) ?_
    obtain ⟨s16, h17⟩ := h15
    obtain ⟨h18, h19⟩ := h17
    refine ev_icmp_lt 60 dX11_addTrip_47 (by decide) s16 ⟨by decide, by decide⟩ (fun c20 => ?_) (fun c20 => ?_)
    · have h21 := h18 c20
      refine ev_aload_n (j := 0) dX11_addTrip_60 rfl rfl ?_
      refine ev_get frX11_22 dX11_addTrip_61 dm0_0 en0_0 rfl ?_
      refine ev_aload_n (j := 0) dX11_addTrip_64 rfl rfl ?_
      refine ev_get frX11_10 dX11_addTrip_65 dm0_0 en0_0 rfl ?_
      refine ev_callVV (As := [rr G 1 0 0]) (st := []) mfX3_keep mlX11_130 dX11_addTrip_68 rfl dm2_0 en2_0 rfl rfl rfl (by decide) (by decide) (by decide) (Nat.le_of_ble_eq_true rfl) (fun _ _ z => z.elim) h21 (fun M22 h23 => ?_)
      refine ev_aload_n (j := 0) dX11_addTrip_71 rfl rfl ?_
      refine ev_get frX11_10 dX11_addTrip_72 dm0_0 en0_0 rfl ?_
      refine ev_get frX11_114 dX11_addTrip_75 (dom1 (by decide) (by decide) (by decide) (by decide)) en1_0 rfl ?_
      refine ev_iload_n (j := 1) dX11_addTrip_78 rfl rfl ?_
      refine ev_iload_n (j := 2) dX11_addTrip_79 rfl rfl ?_
      refine ev_iload_n (j := 3) dX11_addTrip_80 rfl rfl ?_
      refine ev_callVI (As := [iv v1, iv v2, iv v3]) (st := []) mfX8_addActive mlX11_154 dX11_addTrip_81 rfl (dom1 (by decide) (by decide) (by decide) (by decide)) en1_6 rfl rfl rfl (by decide) (by decide) (by decide) (Nat.le_of_ble_eq_true rfl) (fun _ _ z => z.elim) h23 (fun x27 M25 h26 => ?_)
      exact ev_iret dX11_addTrip_84 (by decide) rfl h26
    · have h28 := h19 c20
      exact thrX11_addTrip_50 (by decide) h28
  · have h29 := h13 c14
    exact thrX11_addTrip_25 (by decide) h29
def eX11_addVehicle (G : GT) (K : List Value → Mem → Prop) (X : String → Mem → Prop) (pc : Nat) (lv : List (Nat × Value)) (st : List Value) (M : Mem) : Prop := Ex G zX11_addVehicle 9 2 K X 0 pc lv st M
set_option maxRecDepth 20000 in
set_option maxHeartbeats 4000000 in
theorem bX11_addVehicle {G : GT} {K : List Value → Mem → Prop} {X : String → Mem → Prop} {M : Mem} {v1 : Int} (h : Call G 8 1 zX11_requireIndex [iv v1, iv 2] M (kV (fun M1 => I32 (M1 1 0 11 3) ∧ (((M1 1 0 11 3) < 10 → Call G 3 0 zX3_keep [rr G 2 0 0, rr G 1 0 0] M1 (kV (fun M10 => Call G 0 0 zX2_addTo [rr G 1 0 11, iv v1] M10 (kI (fun x15 M13 => K [iv x15] M13)) noX)) noX) ∧ (¬ (M1 1 0 11 3) < 10 → X "java/lang/IllegalStateException" M1)))) X) : Call G 9 2 zX11_addVehicle [rr G 0 0 0, iv v1] M K X := by
  refine call_intro (lv := [(0, rr G 0 0 0), (1, iv v1)]) (by decide) rfl (Nat.le_of_ble_eq_true rfl) rfl ?_
  refine ev_iload_n (j := 1) dX11_addVehicle_0 rfl rfl ?_
  refine ev_iconst dX11_addVehicle_1 ?_
  refine ev_callSV (As := [iv v1, iv 2]) (st := []) mfX11_requireIndex mlX11_65 dX11_addVehicle_2 rfl rfl (by decide) (by decide) (by decide) (Nat.le_of_ble_eq_true rfl) (fun _ _ z => z) h (fun M1 h2 => ?_)
  refine ev_aload_n (j := 0) dX11_addVehicle_5 rfl rfl ?_
  refine ev_get frX11_10 dX11_addVehicle_6 dm0_0 en0_0 rfl ?_
  refine ev_get frX11_166 dX11_addVehicle_9 (dom1 (by decide) (by decide) (by decide) (by decide)) en1_0 rfl ?_
  refine ev_get frX11_217 dX11_addVehicle_12 (dom1 (by decide) (by decide) (by decide) (by decide)) en1_11 rfl ?_
  refine ev_bipush dX11_addVehicle_15 (by decide) ?_
  obtain ⟨s4, h5⟩ := h2
  obtain ⟨h6, h7⟩ := h5
  refine ev_icmp_lt 31 dX11_addVehicle_17 (by decide) s4 ⟨by decide, by decide⟩ (fun c8 => ?_) (fun c8 => ?_)
  · have h9 := h6 c8
    refine ev_aload_n (j := 0) dX11_addVehicle_31 rfl rfl ?_
    refine ev_get frX11_22 dX11_addVehicle_32 dm0_0 en0_0 rfl ?_
    refine ev_aload_n (j := 0) dX11_addVehicle_35 rfl rfl ?_
    refine ev_get frX11_10 dX11_addVehicle_36 dm0_0 en0_0 rfl ?_
    refine ev_callVV (As := [rr G 1 0 0]) (st := []) mfX3_keep mlX11_130 dX11_addVehicle_39 rfl dm2_0 en2_0 rfl rfl rfl (by decide) (by decide) (by decide) (Nat.le_of_ble_eq_true rfl) (fun _ _ z => z.elim) h9 (fun M10 h11 => ?_)
    refine ev_aload_n (j := 0) dX11_addVehicle_42 rfl rfl ?_
    refine ev_get frX11_10 dX11_addVehicle_43 dm0_0 en0_0 rfl ?_
    refine ev_get frX11_166 dX11_addVehicle_46 (dom1 (by decide) (by decide) (by decide) (by decide)) en1_0 rfl ?_
    refine ev_iload_n (j := 1) dX11_addVehicle_49 rfl rfl ?_
    refine ev_callVI (As := [iv v1]) (st := []) mfX2_addTo mlX11_265 dX11_addVehicle_50 rfl (dom1 (by decide) (by decide) (by decide) (by decide)) en1_11 rfl rfl rfl (by decide) (by decide) (by decide) (Nat.le_of_ble_eq_true rfl) (fun _ _ z => z.elim) h11 (fun x15 M13 h14 => ?_)
    exact ev_iret dX11_addVehicle_53 (by decide) rfl h14
  · have h16 := h7 c8
    exact thrX11_addVehicle_20 (by decide) h16
def eX11_adoptDraft (G : GT) (K : List Value → Mem → Prop) (X : String → Mem → Prop) (pc : Nat) (lv : List (Nat × Value)) (st : List Value) (M : Mem) : Prop := Ex G zX11_adoptDraft 4 0 K X 0 pc lv st M
set_option maxRecDepth 20000 in
set_option maxHeartbeats 4000000 in
theorem bX11_adoptDraft {G : GT} {K : List Value → Mem → Prop} {X : String → Mem → Prop} {M : Mem} (h : Call G 3 0 zX3_keep [rr G 2 0 0, rr G 1 0 0] M (kV (fun M1 => Call G 2 0 zX4_copyFrom [rr G 1 0 0, rr G 1 1 0] M1 (kV (fun M4 => K [] M4)) noX)) noX) : Call G 4 0 zX11_adoptDraft [rr G 0 0 0] M K X := by
  refine call_intro (lv := [(0, rr G 0 0 0)]) (by decide) rfl (Nat.le_of_ble_eq_true rfl) rfl ?_
  refine ev_aload_n (j := 0) dX11_adoptDraft_0 rfl rfl ?_
  refine ev_get frX11_22 dX11_adoptDraft_1 dm0_0 en0_0 rfl ?_
  refine ev_aload_n (j := 0) dX11_adoptDraft_4 rfl rfl ?_
  refine ev_get frX11_10 dX11_adoptDraft_5 dm0_0 en0_0 rfl ?_
  refine ev_callVV (As := [rr G 1 0 0]) (st := []) mfX3_keep mlX11_130 dX11_adoptDraft_8 rfl dm2_0 en2_0 rfl rfl rfl (by decide) (by decide) (by decide) (Nat.le_of_ble_eq_true rfl) (fun _ _ z => z.elim) h (fun M1 h2 => ?_)
  refine ev_aload_n (j := 0) dX11_adoptDraft_11 rfl rfl ?_
  refine ev_get frX11_10 dX11_adoptDraft_12 dm0_0 en0_0 rfl ?_
  refine ev_aload_n (j := 0) dX11_adoptDraft_15 rfl rfl ?_
  refine ev_get frX11_16 dX11_adoptDraft_16 dm0_0 en0_0 rfl ?_
  refine ev_callVV (As := [rr G 1 1 0]) (st := []) mfX4_copyFrom mlX11_93 dX11_adoptDraft_19 rfl (dom1 (by decide) (by decide) (by decide) (by decide)) en1_0 rfl rfl rfl (by decide) (by decide) (by decide) (Nat.le_of_ble_eq_true rfl) (fun _ _ z => z.elim) h2 (fun M4 h5 => ?_)
  exact ev_vret dX11_adoptDraft_22 (by decide) rfl h5
def eX11_append (G : GT) (K : List Value → Mem → Prop) (X : String → Mem → Prop) (pc : Nat) (lv : List (Nat × Value)) (st : List Value) (M : Mem) : Prop := Ex G zX11_append 8 1 K X 0 pc lv st M
set_option maxRecDepth 20000 in
set_option maxHeartbeats 4000000 in
theorem bX11_append {G : GT} {K : List Value → Mem → Prop} {X : String → Mem → Prop} {M : Mem} {v1 : Int} (h : Call G 0 0 zX10_isFull [rr G 7 0 0] M (kI (fun x3 M1 => I32 x3 ∧ ((x3 = 0 → Call G 0 0 zX10_add [rr G 7 0 0, iv v1] M1 (kV (fun M10 => K [] M10)) noX) ∧ (¬ x3 = 0 → X "java/lang/IllegalStateException" M1)))) noX) : Call G 8 1 zX11_append [rr G 0 0 0, iv v1] M K X := by
  refine call_intro (lv := [(0, rr G 0 0 0), (1, iv v1)]) (by decide) rfl (Nat.le_of_ble_eq_true rfl) rfl ?_
  refine ev_aload_n (j := 0) dX11_append_0 rfl rfl ?_
  refine ev_get frX11_57 dX11_append_1 dm0_0 en0_0 rfl ?_
  refine ev_callVI (As := []) (st := []) mfX10_isFull mlX11_425 dX11_append_4 rfl dm7_0 en7_0 rfl rfl rfl (by decide) (by decide) (by decide) (Nat.le_of_ble_eq_true rfl) (fun _ _ z => z.elim) h (fun x3 M1 h2 => ?_)
  obtain ⟨s4, h5⟩ := h2
  obtain ⟨h6, h7⟩ := h5
  refine ev_if_eq 21 dX11_append_7 (by decide) s4 (fun c8 => ?_) (fun c8 => ?_)
  · have h9 := h6 c8
    refine ev_aload_n (j := 0) dX11_append_21 rfl rfl ?_
    refine ev_get frX11_57 dX11_append_22 dm0_0 en0_0 rfl ?_
    refine ev_iload_n (j := 1) dX11_append_25 rfl rfl ?_
    refine ev_callVV (As := [iv v1]) (st := []) mfX10_add mlX11_430 dX11_append_26 rfl dm7_0 en7_0 rfl rfl rfl (by decide) (by decide) (by decide) (Nat.le_of_ble_eq_true rfl) (fun _ _ z => z.elim) h9 (fun M10 h11 => ?_)
    exact ev_vret dX11_append_29 (by decide) rfl h11
  · have h13 := h7 c8
    exact thrX11_append_10 (by decide) h13
def eX11_block (G : GT) (K : List Value → Mem → Prop) (X : String → Mem → Prop) (pc : Nat) (lv : List (Nat × Value)) (st : List Value) (M : Mem) : Prop := Ex G zX11_block 9 2 K X 0 pc lv st M
set_option maxRecDepth 20000 in
set_option maxHeartbeats 4000000 in
theorem bX11_block {G : GT} {K : List Value → Mem → Prop} {X : String → Mem → Prop} {M : Mem} {v1 v2 v3 : Int} (h : Call G 8 1 zX11_requireIndex [iv v1, iv 11] M (kV (fun M1 => Call G 0 0 zX11_isFromTo [iv v2, iv 0, iv 2000] M1 (kI (fun x6 M4 => I32 x6 ∧ ((x6 = 0 → X "java/lang/IllegalArgumentException" M4) ∧ (¬ x6 = 0 → Call G 0 0 zX11_isFromTo [iv v3, iv v2, iv 2000] M4 (kI (fun x16 M14 => I32 x16 ∧ ((¬ x16 = 0 → I32 (M14 1 0 25 3) ∧ (((M14 1 0 25 3) < 6 → Call G 3 0 zX3_keep [rr G 2 0 0, rr G 1 0 0] M14 (kV (fun M29 => Call G 0 0 zX0_addBlock [rr G 1 0 25, iv v1, iv v2, iv v3] M29 (kI (fun x34 M32 => K [iv x34] M32)) noX)) noX) ∧ (¬ (M14 1 0 25 3) < 6 → X "java/lang/IllegalStateException" M14))) ∧ (x16 = 0 → X "java/lang/IllegalArgumentException" M14)))) noX)))) noX)) X) : Call G 9 2 zX11_block [rr G 0 0 0, iv v1, iv v2, iv v3] M K X := by
  refine call_intro (lv := [(0, rr G 0 0 0), (1, iv v1), (2, iv v2), (3, iv v3)]) (by decide) rfl (Nat.le_of_ble_eq_true rfl) rfl ?_
  refine ev_iload_n (j := 1) dX11_block_0 rfl rfl ?_
  refine ev_bipush dX11_block_1 (by decide) ?_
  refine ev_callSV (As := [iv v1, iv 11]) (st := []) mfX11_requireIndex mlX11_65 dX11_block_3 rfl rfl (by decide) (by decide) (by decide) (Nat.le_of_ble_eq_true rfl) (fun _ _ z => z) h (fun M1 h2 => ?_)
  refine ev_iload_n (j := 2) dX11_block_6 rfl rfl ?_
  refine ev_iconst dX11_block_7 ?_
  refine ev_sipush dX11_block_8 (by decide) ?_
  refine ev_callSI (As := [iv v2, iv 0, iv 2000]) (st := []) mfX11_isFromTo mlX11_69 dX11_block_11 rfl rfl (by decide) (by decide) (by decide) (Nat.le_of_ble_eq_true rfl) (fun _ _ z => z.elim) h2 (fun x6 M4 h5 => ?_)
  obtain ⟨s7, h8⟩ := h5
  obtain ⟨h9, h10⟩ := h8
  refine ev_if_eq 28 dX11_block_14 (by decide) s7 (fun c11 => ?_) (fun c11 => ?_)
  · have h12 := h9 c11
    exact thrX11_block_28 (by decide) h12
  · have h13 := h10 c11
    refine ev_iload_n (j := 3) dX11_block_17 rfl rfl ?_
    refine ev_iload_n (j := 2) dX11_block_18 rfl rfl ?_
    refine ev_sipush dX11_block_19 (by decide) ?_
    refine ev_callSI (As := [iv v3, iv v2, iv 2000]) (st := []) mfX11_isFromTo mlX11_69 dX11_block_22 rfl rfl (by decide) (by decide) (by decide) (Nat.le_of_ble_eq_true rfl) (fun _ _ z => z.elim) h13 (fun x16 M14 h15 => ?_)
    obtain ⟨s17, h18⟩ := h15
    obtain ⟨h19, h20⟩ := h18
    refine ev_if_ne 39 dX11_block_25 (by decide) s17 (fun c21 => ?_) (fun c21 => ?_)
    · have h22 := h19 c21
      refine ev_aload_n (j := 0) dX11_block_39 rfl rfl ?_
      refine ev_get frX11_10 dX11_block_40 dm0_0 en0_0 rfl ?_
      refine ev_get frX11_221 dX11_block_43 (dom1 (by decide) (by decide) (by decide) (by decide)) en1_0 rfl ?_
      refine ev_get frX11_225 dX11_block_46 (dom1 (by decide) (by decide) (by decide) (by decide)) en1_25 rfl ?_
      refine ev_bipush dX11_block_49 (by decide) ?_
      obtain ⟨s23, h24⟩ := h22
      obtain ⟨h25, h26⟩ := h24
      refine ev_icmp_lt 65 dX11_block_51 (by decide) s23 ⟨by decide, by decide⟩ (fun c27 => ?_) (fun c27 => ?_)
      · have h28 := h25 c27
        refine ev_aload_n (j := 0) dX11_block_65 rfl rfl ?_
        refine ev_get frX11_22 dX11_block_66 dm0_0 en0_0 rfl ?_
        refine ev_aload_n (j := 0) dX11_block_69 rfl rfl ?_
        refine ev_get frX11_10 dX11_block_70 dm0_0 en0_0 rfl ?_
        refine ev_callVV (As := [rr G 1 0 0]) (st := []) mfX3_keep mlX11_130 dX11_block_73 rfl dm2_0 en2_0 rfl rfl rfl (by decide) (by decide) (by decide) (Nat.le_of_ble_eq_true rfl) (fun _ _ z => z.elim) h28 (fun M29 h30 => ?_)
        refine ev_aload_n (j := 0) dX11_block_76 rfl rfl ?_
        refine ev_get frX11_10 dX11_block_77 dm0_0 en0_0 rfl ?_
        refine ev_get frX11_221 dX11_block_80 (dom1 (by decide) (by decide) (by decide) (by decide)) en1_0 rfl ?_
        refine ev_iload_n (j := 1) dX11_block_83 rfl rfl ?_
        refine ev_iload_n (j := 2) dX11_block_84 rfl rfl ?_
        refine ev_iload_n (j := 3) dX11_block_85 rfl rfl ?_
        refine ev_callVI (As := [iv v1, iv v2, iv v3]) (st := []) mfX0_addBlock mlX11_343 dX11_block_86 rfl (dom1 (by decide) (by decide) (by decide) (by decide)) en1_25 rfl rfl rfl (by decide) (by decide) (by decide) (Nat.le_of_ble_eq_true rfl) (fun _ _ z => z.elim) h30 (fun x34 M32 h33 => ?_)
        exact ev_iret dX11_block_89 (by decide) rfl h33
      · have h35 := h26 c27
        exact thrX11_block_54 (by decide) h35
    · have h36 := h20 c21
      exact thrX11_block_28 (by decide) h36
def eX11_bunches (G : GT) (K : List Value → Mem → Prop) (X : String → Mem → Prop) (pc : Nat) (lv : List (Nat × Value)) (st : List Value) (M : Mem) : Prop := Ex G zX11_bunches 9 2 K X 0 pc lv st M
set_option maxRecDepth 20000 in
set_option maxHeartbeats 4000000 in
theorem bX11_bunches {G : GT} {K : List Value → Mem → Prop} {X : String → Mem → Prop} {M : Mem} {v1 v2 : Int} (h : Call G 8 1 zX11_requireIndex [iv v1, iv 2] M (kV (fun M1 => Call G 8 1 zX11_requireIndex [iv v2, iv 12] M1 (kV (fun M4 => Call G 2 0 zX4_listPassages [rr G 1 0 0, iv v1, iv v2, rr G 5 0 0] M4 (kV (fun M7 => Call G 0 0 zX7_headwaysBelow [rr G 5 0 0, iv (M7 1 0 5 1)] M7 (kI (fun x12 M10 => K [iv x12] M10)) noX)) noX)) X)) X) : Call G 9 2 zX11_bunches [rr G 0 0 0, iv v1, iv v2] M K X := by
  refine call_intro (lv := [(0, rr G 0 0 0), (1, iv v1), (2, iv v2)]) (by decide) rfl (Nat.le_of_ble_eq_true rfl) rfl ?_
  refine ev_iload_n (j := 1) dX11_bunches_0 rfl rfl ?_
  refine ev_iconst dX11_bunches_1 ?_
  refine ev_callSV (As := [iv v1, iv 2]) (st := []) mfX11_requireIndex mlX11_65 dX11_bunches_2 rfl rfl (by decide) (by decide) (by decide) (Nat.le_of_ble_eq_true rfl) (fun _ _ z => z) h (fun M1 h2 => ?_)
  refine ev_iload_n (j := 2) dX11_bunches_5 rfl rfl ?_
  refine ev_bipush dX11_bunches_6 (by decide) ?_
  refine ev_callSV (As := [iv v2, iv 12]) (st := []) mfX11_requireIndex mlX11_65 dX11_bunches_8 rfl rfl (by decide) (by decide) (by decide) (Nat.le_of_ble_eq_true rfl) (fun _ _ z => z) h2 (fun M4 h5 => ?_)
  refine ev_aload_n (j := 0) dX11_bunches_11 rfl rfl ?_
  refine ev_get frX11_10 dX11_bunches_12 dm0_0 en0_0 rfl ?_
  refine ev_iload_n (j := 1) dX11_bunches_15 rfl rfl ?_
  refine ev_iload_n (j := 2) dX11_bunches_16 rfl rfl ?_
  refine ev_aload_n (j := 0) dX11_bunches_17 rfl rfl ?_
  refine ev_get frX11_50 dX11_bunches_18 dm0_0 en0_0 rfl ?_
  refine ev_callVV (As := [iv v1, iv v2, rr G 5 0 0]) (st := []) mfX4_listPassages mlX11_233 dX11_bunches_21 rfl (dom1 (by decide) (by decide) (by decide) (by decide)) en1_0 rfl rfl rfl (by decide) (by decide) (by decide) (Nat.le_of_ble_eq_true rfl) (fun _ _ z => z.elim) h5 (fun M7 h8 => ?_)
  refine ev_aload_n (j := 0) dX11_bunches_24 rfl rfl ?_
  refine ev_get frX11_50 dX11_bunches_25 dm0_0 en0_0 rfl ?_
  refine ev_aload_n (j := 0) dX11_bunches_28 rfl rfl ?_
  refine ev_get frX11_10 dX11_bunches_29 dm0_0 en0_0 rfl ?_
  refine ev_get frX11_80 dX11_bunches_32 (dom1 (by decide) (by decide) (by decide) (by decide)) en1_0 rfl ?_
  refine ev_get frX11_141 dX11_bunches_35 (dom1 (by decide) (by decide) (by decide) (by decide)) en1_1 rfl ?_
  refine ev_iconst dX11_bunches_38 ?_
  refine ev_iald dX11_bunches_39 (dom1 (by decide) (by decide) (by decide) (by decide)) ar1_5 (by decide) (by decide) (by decide) ?_
  refine ev_callVI (As := [iv (M7 1 0 5 1)]) (st := []) mfX7_headwaysBelow mlX11_246 dX11_bunches_40 rfl (dom5 (by decide) (by decide) (by decide) (by decide)) en5_0 rfl rfl rfl (by decide) (by decide) (by decide) (Nat.le_of_ble_eq_true rfl) (fun _ _ z => z.elim) h8 (fun x12 M10 h11 => ?_)
  exact ev_iret dX11_bunches_43 (by decide) rfl h11
def eX11_cancel (G : GT) (K : List Value → Mem → Prop) (X : String → Mem → Prop) (pc : Nat) (lv : List (Nat × Value)) (st : List Value) (M : Mem) : Prop := Ex G zX11_cancel 9 2 K X 0 pc lv st M
set_option maxRecDepth 20000 in
set_option maxHeartbeats 4000000 in
theorem bX11_cancel {G : GT} {K : List Value → Mem → Prop} {X : String → Mem → Prop} {M : Mem} {v1 v2 : Int} (h : Call G 8 1 zX11_requireIndex [iv v1, iv (M 1 0 6 4)] M (kV (fun M1 => I32 v2 ∧ ((¬ v2 = 0 → 0 ≤ v1 ∧ v1 < 30 ∧ Call G 3 0 zX3_keep [rr G 2 0 0, rr G 1 0 0] M1 (kV (fun M13 => vp_nar .boolean (J v2) = J v2 ∧ Call G 2 0 zX2_takeOutFrom [rr G 1 0 11, iv v1] (wr M13 1 0 10 v1 v2) (kV (fun M18 => (M1 1 0 10 v1 = 0 ∨ M1 1 0 10 v1 = 1) ∧ K [iv (M1 1 0 10 v1)] M18)) noX)) noX) ∧ (v2 = 0 → Call G 0 0 zX4_canTurnAtEnds [rr G 1 0 0, iv v1] M1 (kI (fun x26 M24 => I32 x26 ∧ ((¬ x26 = 0 → 0 ≤ v1 ∧ v1 < 30 ∧ Call G 3 0 zX3_keep [rr G 2 0 0, rr G 1 0 0] M24 (kV (fun M36 => vp_nar .boolean (J v2) = J v2 ∧ (M24 1 0 10 v1 = 0 ∨ M24 1 0 10 v1 = 1) ∧ K [iv (M24 1 0 10 v1)] (wr M36 1 0 10 v1 v2))) noX) ∧ (x26 = 0 → X "java/lang/IllegalStateException" M24)))) noX)))) X) : Call G 9 2 zX11_cancel [rr G 0 0 0, iv v1, iv v2] M K X := by
  refine call_intro (lv := [(0, rr G 0 0 0), (1, iv v1), (2, iv v2)]) (by decide) rfl (Nat.le_of_ble_eq_true rfl) rfl ?_
  refine ev_iload_n (j := 1) dX11_cancel_0 rfl rfl ?_
  refine ev_aload_n (j := 0) dX11_cancel_1 rfl rfl ?_
  refine ev_get frX11_10 dX11_cancel_2 dm0_0 en0_0 rfl ?_
  refine ev_get frX11_114 dX11_cancel_5 (dom1 (by decide) (by decide) (by decide) (by decide)) en1_0 rfl ?_
  refine ev_get frX11_149 dX11_cancel_8 (dom1 (by decide) (by decide) (by decide) (by decide)) en1_6 rfl ?_
  refine ev_callSV (As := [iv v1, iv (M 1 0 6 4)]) (st := []) mfX11_requireIndex mlX11_65 dX11_cancel_11 rfl rfl (by decide) (by decide) (by decide) (Nat.le_of_ble_eq_true rfl) (fun _ _ z => z) h (fun M1 h2 => ?_)
  refine ev_iload_n (j := 2) dX11_cancel_14 rfl rfl ?_
  obtain ⟨s4, h5⟩ := h2
  obtain ⟨h6, h7⟩ := h5
  refine ev_if_ne 39 dX11_cancel_15 (by decide) s4 (fun c8 => ?_) (fun c8 => ?_)
  · have h9 := h6 c8
    refine ev_aload_n (j := 0) dX11_cancel_39 rfl rfl ?_
    refine ev_get frX11_10 dX11_cancel_40 dm0_0 en0_0 rfl ?_
    refine ev_get frX11_114 dX11_cancel_43 (dom1 (by decide) (by decide) (by decide) (by decide)) en1_0 rfl ?_
    refine ev_get frX11_163 dX11_cancel_46 (dom1 (by decide) (by decide) (by decide) (by decide)) en1_6 rfl ?_
    refine ev_iload_n (j := 1) dX11_cancel_49 rfl rfl ?_
    obtain ⟨s10, s11, h12⟩ := h9
    refine ev_zald dX11_cancel_50 (dom1 (by decide) (by decide) (by decide) (by decide)) ar1_10 (by decide) s10 s11 ?_
    refine ev_istore_n dX11_cancel_51 rfl (by decide) rfl ?_
    refine ev_aload_n (j := 1) dX11_cancel_52 rfl rfl ?_
    refine ev_get frX11_22 dX11_cancel_53 dm0_0 en0_0 rfl ?_
    refine ev_aload_n (j := 1) dX11_cancel_56 rfl rfl ?_
    refine ev_get frX11_10 dX11_cancel_57 dm0_0 en0_0 rfl ?_
    refine ev_callVV (As := [rr G 1 0 0]) (st := []) mfX3_keep mlX11_130 dX11_cancel_60 rfl dm2_0 en2_0 rfl rfl rfl (by decide) (by decide) (by decide) (Nat.le_of_ble_eq_true rfl) (fun _ _ z => z.elim) h12 (fun M13 h14 => ?_)
    refine ev_aload_n (j := 1) dX11_cancel_63 rfl rfl ?_
    refine ev_get frX11_10 dX11_cancel_64 dm0_0 en0_0 rfl ?_
    refine ev_get frX11_114 dX11_cancel_67 (dom1 (by decide) (by decide) (by decide) (by decide)) en1_0 rfl ?_
    refine ev_get frX11_163 dX11_cancel_70 (dom1 (by decide) (by decide) (by decide) (by decide)) en1_6 rfl ?_
    refine ev_iload_n (j := 2) dX11_cancel_73 rfl rfl ?_
    refine ev_iload_n (j := 3) dX11_cancel_74 rfl rfl ?_
    obtain ⟨s16, h17⟩ := h14
    refine ev_zast dX11_cancel_75 (dom1 (by decide) (by decide) (by decide) (by decide)) ar1_10 (by decide) s10 s11 s16 ?_
    refine ev_iload_n (j := 3) dX11_cancel_76 rfl rfl ?_
    refine ev_if_eq 91 dX11_cancel_77 (by decide) s4 (fun c9 => absurd c9 c8) (fun _ => ?_)
    refine ev_aload_n (j := 1) dX11_cancel_80 rfl rfl ?_
    refine ev_get frX11_10 dX11_cancel_81 dm0_0 en0_0 rfl ?_
    refine ev_get frX11_166 dX11_cancel_84 (dom1 (by decide) (by decide) (by decide) (by decide)) en1_0 rfl ?_
    refine ev_iload_n (j := 2) dX11_cancel_87 rfl rfl ?_
    refine ev_callVV (As := [iv v1]) (st := []) mfX2_takeOutFrom mlX11_170 dX11_cancel_88 rfl (dom1 (by decide) (by decide) (by decide) (by decide)) en1_11 rfl rfl rfl (by decide) (by decide) (by decide) (Nat.le_of_ble_eq_true rfl) (fun _ _ z => z.elim) h17 (fun M18 h19 => ?_)
    refine ev_iload_n (j := 0) dX11_cancel_91 rfl rfl ?_
    obtain ⟨s21, h22⟩ := h19
    exact ev_zret dX11_cancel_92 (by decide) rfl s21 h22
  · have h23 := h7 c8
    refine ev_aload_n (j := 0) dX11_cancel_18 rfl rfl ?_
    refine ev_get frX11_10 dX11_cancel_19 dm0_0 en0_0 rfl ?_
    refine ev_iload_n (j := 1) dX11_cancel_22 rfl rfl ?_
    refine ev_callVI (As := [iv v1]) (st := []) mfX4_canTurnAtEnds mlX11_158 dX11_cancel_23 rfl (dom1 (by decide) (by decide) (by decide) (by decide)) en1_0 rfl rfl rfl (by decide) (by decide) (by decide) (Nat.le_of_ble_eq_true rfl) (fun _ _ z => z.elim) h23 (fun x26 M24 h25 => ?_)
    obtain ⟨s27, h28⟩ := h25
    obtain ⟨h29, h30⟩ := h28
    refine ev_if_ne 39 dX11_cancel_26 (by decide) s27 (fun c31 => ?_) (fun c31 => ?_)
    · have h32 := h29 c31
      refine ev_aload_n (j := 0) dX11_cancel_39 rfl rfl ?_
      refine ev_get frX11_10 dX11_cancel_40 dm0_0 en0_0 rfl ?_
      refine ev_get frX11_114 dX11_cancel_43 (dom1 (by decide) (by decide) (by decide) (by decide)) en1_0 rfl ?_
      refine ev_get frX11_163 dX11_cancel_46 (dom1 (by decide) (by decide) (by decide) (by decide)) en1_6 rfl ?_
      refine ev_iload_n (j := 1) dX11_cancel_49 rfl rfl ?_
      obtain ⟨s33, s34, h35⟩ := h32
      refine ev_zald dX11_cancel_50 (dom1 (by decide) (by decide) (by decide) (by decide)) ar1_10 (by decide) s33 s34 ?_
      refine ev_istore_n dX11_cancel_51 rfl (by decide) rfl ?_
      refine ev_aload_n (j := 1) dX11_cancel_52 rfl rfl ?_
      refine ev_get frX11_22 dX11_cancel_53 dm0_0 en0_0 rfl ?_
      refine ev_aload_n (j := 1) dX11_cancel_56 rfl rfl ?_
      refine ev_get frX11_10 dX11_cancel_57 dm0_0 en0_0 rfl ?_
      refine ev_callVV (As := [rr G 1 0 0]) (st := []) mfX3_keep mlX11_130 dX11_cancel_60 rfl dm2_0 en2_0 rfl rfl rfl (by decide) (by decide) (by decide) (Nat.le_of_ble_eq_true rfl) (fun _ _ z => z.elim) h35 (fun M36 h37 => ?_)
      refine ev_aload_n (j := 1) dX11_cancel_63 rfl rfl ?_
      refine ev_get frX11_10 dX11_cancel_64 dm0_0 en0_0 rfl ?_
      refine ev_get frX11_114 dX11_cancel_67 (dom1 (by decide) (by decide) (by decide) (by decide)) en1_0 rfl ?_
      refine ev_get frX11_163 dX11_cancel_70 (dom1 (by decide) (by decide) (by decide) (by decide)) en1_6 rfl ?_
      refine ev_iload_n (j := 2) dX11_cancel_73 rfl rfl ?_
      refine ev_iload_n (j := 3) dX11_cancel_74 rfl rfl ?_
      obtain ⟨s39, h40⟩ := h37
      refine ev_zast dX11_cancel_75 (dom1 (by decide) (by decide) (by decide) (by decide)) ar1_10 (by decide) s33 s34 s39 ?_
      refine ev_iload_n (j := 3) dX11_cancel_76 rfl rfl ?_
      refine ev_if_eq 91 dX11_cancel_77 (by decide) s4 (fun _ => ?_) (fun c9 => absurd c8 c9)
      refine ev_iload_n (j := 0) dX11_cancel_91 rfl rfl ?_
      obtain ⟨s41, h42⟩ := h40
      exact ev_zret dX11_cancel_92 (by decide) rfl s41 h42
    · have h43 := h30 c31
      exact thrX11_cancel_29 (by decide) h43
def eX11_count (G : GT) (K : List Value → Mem → Prop) (X : String → Mem → Prop) (pc : Nat) (lv : List (Nat × Value)) (st : List Value) (M : Mem) : Prop := Ex G zX11_count 8 1 K X 0 pc lv st M
set_option maxRecDepth 20000 in
set_option maxHeartbeats 4000000 in
theorem bX11_count {G : GT} {K : List Value → Mem → Prop} {X : String → Mem → Prop} {M : Mem} {v1 : Int} (h : I32 v1 ∧ ((v1 = 0 → K [iv (M 1 0 6 4)] M) ∧ (v1 = 1 → Call G 0 0 zX8_activeCount [rr G 1 0 6] M (kI (fun x15 M13 => K [iv x15] M13)) noX) ∧ (v1 = 2 → Call G 0 0 zX2_tripsInDuties [rr G 1 0 11] M (kI (fun x19 M17 => K [iv x19] M17)) noX) ∧ (v1 = 3 → K [iv (M 1 0 11 3)] M) ∧ (v1 = 4 → Call G 0 0 zX2_vehiclesWithDuty [rr G 1 0 11] M (kI (fun x24 M22 => K [iv x24] M22)) noX) ∧ (v1 = 5 → K [iv (M 1 0 25 3)] M) ∧ (v1 = 6 → Call G 0 0 zX9_turnableCount [rr G 1 0 1] M (kI (fun x29 M27 => K [iv x29] M27)) noX) ∧ ((v1 < 0 ∨ 6 < v1) → X "java/lang/IllegalArgumentException" M))) : Call G 8 1 zX11_count [rr G 0 0 0, iv v1] M K X := by
  refine call_intro (lv := [(0, rr G 0 0 0), (1, iv v1)]) (by decide) rfl (Nat.le_of_ble_eq_true rfl) rfl ?_
  refine ev_iload_n (j := 1) dX11_count_0 rfl rfl ?_
  obtain ⟨s1, h2⟩ := h
  obtain ⟨h3, h4, h5, h6, h7, h8, h9, h10⟩ := h2
  refine ev_tsw dX11_count_1 s1 (by decide) (fun j9 o9 hj9 ha9 t9 ht9 _ => ?_) (fun j9 o9 hj9 => ?_) (fun c9 t9 ht9 => ?_) (by decide)
  · have hb9 : j9 < 7 := (Array.getElem?_eq_some_iff.mp hj9).1
    rcases (show j9 = 0 ∨ j9 = 1 ∨ j9 = 2 ∨ j9 = 3 ∨ j9 = 4 ∨ j9 = 5 ∨ j9 = 6 by omega) with rfl | rfl | rfl | rfl | rfl | rfl | rfl
    · obtain rfl : o9 = (43 : Int) := (Option.some.inj (show some (43 : Int) = some o9 from hj9)).symm
      obtain rfl : t9 = 44 := by omega
      have h11 := h3 (by omega)
      refine ev_aload_n (j := 0) dX11_count_44 rfl rfl ?_
      refine ev_get frX11_10 dX11_count_45 dm0_0 en0_0 rfl ?_
      refine ev_get frX11_114 dX11_count_48 (dom1 (by decide) (by decide) (by decide) (by decide)) en1_0 rfl ?_
      refine ev_get frX11_149 dX11_count_51 (dom1 (by decide) (by decide) (by decide) (by decide)) en1_6 rfl ?_
      exact ev_iret dX11_count_54 (by decide) rfl h11
    · obtain rfl : o9 = (54 : Int) := (Option.some.inj (show some (54 : Int) = some o9 from hj9)).symm
      obtain rfl : t9 = 55 := by omega
      have h12 := h4 (by omega)
      refine ev_aload_n (j := 0) dX11_count_55 rfl rfl ?_
      refine ev_get frX11_10 dX11_count_56 dm0_0 en0_0 rfl ?_
      refine ev_get frX11_114 dX11_count_59 (dom1 (by decide) (by decide) (by decide) (by decide)) en1_0 rfl ?_
      refine ev_callVI (As := []) (st := []) mfX8_activeCount mlX11_210 dX11_count_62 rfl (dom1 (by decide) (by decide) (by decide) (by decide)) en1_6 rfl rfl rfl (by decide) (by decide) (by decide) (Nat.le_of_ble_eq_true rfl) (fun _ _ z => z.elim) h12 (fun x15 M13 h14 => ?_)
      exact ev_iret dX11_count_65 (by decide) rfl h14
    · obtain rfl : o9 = (65 : Int) := (Option.some.inj (show some (65 : Int) = some o9 from hj9)).symm
      obtain rfl : t9 = 66 := by omega
      have h16 := h5 (by omega)
      refine ev_aload_n (j := 0) dX11_count_66 rfl rfl ?_
      refine ev_get frX11_10 dX11_count_67 dm0_0 en0_0 rfl ?_
      refine ev_get frX11_166 dX11_count_70 (dom1 (by decide) (by decide) (by decide) (by decide)) en1_0 rfl ?_
      refine ev_callVI (As := []) (st := []) mfX2_tripsInDuties mlX11_214 dX11_count_73 rfl (dom1 (by decide) (by decide) (by decide) (by decide)) en1_11 rfl rfl rfl (by decide) (by decide) (by decide) (Nat.le_of_ble_eq_true rfl) (fun _ _ z => z.elim) h16 (fun x19 M17 h18 => ?_)
      exact ev_iret dX11_count_76 (by decide) rfl h18
    · obtain rfl : o9 = (76 : Int) := (Option.some.inj (show some (76 : Int) = some o9 from hj9)).symm
      obtain rfl : t9 = 77 := by omega
      have h20 := h6 (by omega)
      refine ev_aload_n (j := 0) dX11_count_77 rfl rfl ?_
      refine ev_get frX11_10 dX11_count_78 dm0_0 en0_0 rfl ?_
      refine ev_get frX11_166 dX11_count_81 (dom1 (by decide) (by decide) (by decide) (by decide)) en1_0 rfl ?_
      refine ev_get frX11_217 dX11_count_84 (dom1 (by decide) (by decide) (by decide) (by decide)) en1_11 rfl ?_
      exact ev_iret dX11_count_87 (by decide) rfl h20
    · obtain rfl : o9 = (87 : Int) := (Option.some.inj (show some (87 : Int) = some o9 from hj9)).symm
      obtain rfl : t9 = 88 := by omega
      have h21 := h7 (by omega)
      refine ev_aload_n (j := 0) dX11_count_88 rfl rfl ?_
      refine ev_get frX11_10 dX11_count_89 dm0_0 en0_0 rfl ?_
      refine ev_get frX11_166 dX11_count_92 (dom1 (by decide) (by decide) (by decide) (by decide)) en1_0 rfl ?_
      refine ev_callVI (As := []) (st := []) mfX2_vehiclesWithDuty mlX11_218 dX11_count_95 rfl (dom1 (by decide) (by decide) (by decide) (by decide)) en1_11 rfl rfl rfl (by decide) (by decide) (by decide) (Nat.le_of_ble_eq_true rfl) (fun _ _ z => z.elim) h21 (fun x24 M22 h23 => ?_)
      exact ev_iret dX11_count_98 (by decide) rfl h23
    · obtain rfl : o9 = (98 : Int) := (Option.some.inj (show some (98 : Int) = some o9 from hj9)).symm
      obtain rfl : t9 = 99 := by omega
      have h25 := h8 (by omega)
      refine ev_aload_n (j := 0) dX11_count_99 rfl rfl ?_
      refine ev_get frX11_10 dX11_count_100 dm0_0 en0_0 rfl ?_
      refine ev_get frX11_221 dX11_count_103 (dom1 (by decide) (by decide) (by decide) (by decide)) en1_0 rfl ?_
      refine ev_get frX11_225 dX11_count_106 (dom1 (by decide) (by decide) (by decide) (by decide)) en1_25 rfl ?_
      exact ev_iret dX11_count_109 (by decide) rfl h25
    · obtain rfl : o9 = (109 : Int) := (Option.some.inj (show some (109 : Int) = some o9 from hj9)).symm
      obtain rfl : t9 = 110 := by omega
      have h26 := h9 (by omega)
      refine ev_aload_n (j := 0) dX11_count_110 rfl rfl ?_
      refine ev_get frX11_10 dX11_count_111 dm0_0 en0_0 rfl ?_
      refine ev_get frX11_80 dX11_count_114 (dom1 (by decide) (by decide) (by decide) (by decide)) en1_0 rfl ?_
      refine ev_callVI (As := []) (st := []) mfX9_turnableCount mlX11_228 dX11_count_117 rfl (dom1 (by decide) (by decide) (by decide) (by decide)) en1_1 rfl rfl rfl (by decide) (by decide) (by decide) (Nat.le_of_ble_eq_true rfl) (fun _ _ z => z.elim) h26 (fun x29 M27 h28 => ?_)
      exact ev_iret dX11_count_120 (by decide) rfl h28
  · have hb9 : j9 < 7 := (Array.getElem?_eq_some_iff.mp hj9).1
    rcases (show j9 = 0 ∨ j9 = 1 ∨ j9 = 2 ∨ j9 = 3 ∨ j9 = 4 ∨ j9 = 5 ∨ j9 = 6 by omega) with rfl | rfl | rfl | rfl | rfl | rfl | rfl <;> (have hj8 := Option.some.inj hj9; revert hj8; intro hj8; subst hj8; decide)
  · obtain rfl : t9 = 121 := by omega
    have h30 := h10 c9
    exact thrX11_count_121 (by decide) h30
def eX11_exchange (G : GT) (K : List Value → Mem → Prop) (X : String → Mem → Prop) (pc : Nat) (lv : List (Nat × Value)) (st : List Value) (M : Mem) : Prop := Ex G zX11_exchange 9 3 K X 0 pc lv st M
set_option maxRecDepth 20000 in
set_option maxHeartbeats 4000000 in
theorem bX11_exchange {G : GT} {K : List Value → Mem → Prop} {X : String → Mem → Prop} {M : Mem} {v1 v2 v3 : Int} (h : Call G 8 1 zX11_requireIndex [iv v1, iv (M 1 0 11 3)] M (kV (fun M1 => Call G 8 1 zX11_requireIndex [iv v2, iv (M1 1 0 11 3)] M1 (kV (fun M4 => I32 v1 ∧ I32 v2 ∧ ((¬ v1 = v2 → Call G 0 0 zX4_tripsBefore [rr G 1 0 0, iv v3, iv v1] M4 (kI (fun x16 M14 => Call G 0 0 zX4_tripsBefore [rr G 1 0 0, iv v3, iv v2] M14 (kI (fun x19 M17 => Call G 2 0 zX4_copyFrom [rr G 1 1 0, rr G 1 0 0] M17 (kV (fun M20 => Call G 0 0 zX2_join [rr G 1 1 11, iv v1, iv x16, rr G 1 0 11, iv v2, iv x19] M20 (kV (fun M23 => Call G 0 0 zX2_join [rr G 1 1 11, iv v2, iv x19, rr G 1 0 11, iv v1, iv x16] M23 (kV (fun M26 => Call G 4 0 zX4_areDutiesSound [rr G 1 1 0] M26 (kI (fun x31 M29 => I32 x31 ∧ ((¬ x31 = 0 → 0 ≤ v1 ∧ v1 < 10 ∧ 0 ≤ v2 ∧ v2 < 10 ∧ Call G 4 0 zX11_adoptDraft [rr G 0 0 0] M29 (kV (fun M44 => K [iv ((((M29 1 0 13 v1) - x16) + (M29 1 0 13 v2)) - x19)] M44)) noX) ∧ (x31 = 0 → X "java/lang/IllegalStateException" M29)))) noX)) noX)) noX)) noX)) noX)) noX) ∧ (v1 = v2 → X "java/lang/IllegalArgumentException" M4)))) X)) X) : Call G 9 3 zX11_exchange [rr G 0 0 0, iv v1, iv v2, iv v3] M K X := by
  refine call_intro (lv := [(0, rr G 0 0 0), (1, iv v1), (2, iv v2), (3, iv v3)]) (by decide) rfl (Nat.le_of_ble_eq_true rfl) rfl ?_
  refine ev_iload_n (j := 1) dX11_exchange_0 rfl rfl ?_
  refine ev_aload_n (j := 0) dX11_exchange_1 rfl rfl ?_
  refine ev_get frX11_10 dX11_exchange_2 dm0_0 en0_0 rfl ?_
  refine ev_get frX11_166 dX11_exchange_5 (dom1 (by decide) (by decide) (by decide) (by decide)) en1_0 rfl ?_
  refine ev_get frX11_217 dX11_exchange_8 (dom1 (by decide) (by decide) (by decide) (by decide)) en1_11 rfl ?_
  refine ev_callSV (As := [iv v1, iv (M 1 0 11 3)]) (st := []) mfX11_requireIndex mlX11_65 dX11_exchange_11 rfl rfl (by decide) (by decide) (by decide) (Nat.le_of_ble_eq_true rfl) (fun _ _ z => z) h (fun M1 h2 => ?_)
  refine ev_iload_n (j := 2) dX11_exchange_14 rfl rfl ?_
  refine ev_aload_n (j := 0) dX11_exchange_15 rfl rfl ?_
  refine ev_get frX11_10 dX11_exchange_16 dm0_0 en0_0 rfl ?_
  refine ev_get frX11_166 dX11_exchange_19 (dom1 (by decide) (by decide) (by decide) (by decide)) en1_0 rfl ?_
  refine ev_get frX11_217 dX11_exchange_22 (dom1 (by decide) (by decide) (by decide) (by decide)) en1_11 rfl ?_
  refine ev_callSV (As := [iv v2, iv (M1 1 0 11 3)]) (st := []) mfX11_requireIndex mlX11_65 dX11_exchange_25 rfl rfl (by decide) (by decide) (by decide) (Nat.le_of_ble_eq_true rfl) (fun _ _ z => z) h2 (fun M4 h5 => ?_)
  refine ev_iload_n (j := 1) dX11_exchange_28 rfl rfl ?_
  refine ev_iload_n (j := 2) dX11_exchange_29 rfl rfl ?_
  obtain ⟨s7, s8, h9⟩ := h5
  obtain ⟨h10, h11⟩ := h9
  refine ev_icmp_ne 44 dX11_exchange_30 (by decide) s7 s8 (fun c12 => ?_) (fun c12 => ?_)
  · have h13 := h10 c12
    refine ev_aload_n (j := 0) dX11_exchange_44 rfl rfl ?_
    refine ev_get frX11_10 dX11_exchange_45 dm0_0 en0_0 rfl ?_
    refine ev_iload_n (j := 3) dX11_exchange_48 rfl rfl ?_
    refine ev_iload_n (j := 1) dX11_exchange_49 rfl rfl ?_
    refine ev_callVI (As := [iv v3, iv v1]) (st := []) mfX4_tripsBefore mlX11_297 dX11_exchange_50 rfl (dom1 (by decide) (by decide) (by decide) (by decide)) en1_0 rfl rfl rfl (by decide) (by decide) (by decide) (Nat.le_of_ble_eq_true rfl) (fun _ _ z => z.elim) h13 (fun x16 M14 h15 => ?_)
    refine ev_istore dX11_exchange_53 (by decide) rfl ?_
    refine ev_aload_n (j := 1) dX11_exchange_55 rfl rfl ?_
    refine ev_get frX11_10 dX11_exchange_56 dm0_0 en0_0 rfl ?_
    refine ev_iload_n (j := 4) dX11_exchange_59 rfl rfl ?_
    refine ev_iload_n (j := 3) dX11_exchange_60 rfl rfl ?_
    refine ev_callVI (As := [iv v3, iv v2]) (st := []) mfX4_tripsBefore mlX11_297 dX11_exchange_61 rfl (dom1 (by decide) (by decide) (by decide) (by decide)) en1_0 rfl rfl rfl (by decide) (by decide) (by decide) (Nat.le_of_ble_eq_true rfl) (fun _ _ z => z.elim) h15 (fun x19 M17 h18 => ?_)
    refine ev_istore dX11_exchange_64 (by decide) rfl ?_
    refine ev_aload_n (j := 2) dX11_exchange_66 rfl rfl ?_
    refine ev_get frX11_16 dX11_exchange_67 dm0_0 en0_0 rfl ?_
    refine ev_aload_n (j := 2) dX11_exchange_70 rfl rfl ?_
    refine ev_get frX11_10 dX11_exchange_71 dm0_0 en0_0 rfl ?_
    refine ev_callVV (As := [rr G 1 0 0]) (st := []) mfX4_copyFrom mlX11_93 dX11_exchange_74 rfl (dom1 (by decide) (by decide) (by decide) (by decide)) en1_0 rfl rfl rfl (by decide) (by decide) (by decide) (Nat.le_of_ble_eq_true rfl) (fun _ _ z => z.elim) h18 (fun M20 h21 => ?_)
    refine ev_aload_n (j := 2) dX11_exchange_77 rfl rfl ?_
    refine ev_get frX11_16 dX11_exchange_78 dm0_0 en0_0 rfl ?_
    refine ev_get frX11_166 dX11_exchange_81 (dom1 (by decide) (by decide) (by decide) (by decide)) en1_0 rfl ?_
    refine ev_iload_n (j := 3) dX11_exchange_84 rfl rfl ?_
    refine ev_iload (j := 1) dX11_exchange_85 rfl ?_
    refine ev_aload_n (j := 2) dX11_exchange_87 rfl rfl ?_
    refine ev_get frX11_10 dX11_exchange_88 dm0_0 en0_0 rfl ?_
    refine ev_get frX11_166 dX11_exchange_91 (dom1 (by decide) (by decide) (by decide) (by decide)) en1_0 rfl ?_
    refine ev_iload_n (j := 4) dX11_exchange_94 rfl rfl ?_
    refine ev_iload (j := 0) dX11_exchange_95 rfl ?_
    refine ev_callVV (As := [iv v1, iv x16, rr G 1 0 11, iv v2, iv x19]) (st := []) mfX2_join mlX11_300 dX11_exchange_97 rfl (dom1 (by decide) (by decide) (by decide) (by decide)) en1_11 rfl rfl rfl (by decide) (by decide) (by decide) (Nat.le_of_ble_eq_true rfl) (fun _ _ z => z.elim) h21 (fun M23 h24 => ?_)
    refine ev_aload_n (j := 2) dX11_exchange_100 rfl rfl ?_
    refine ev_get frX11_16 dX11_exchange_101 dm0_0 en0_0 rfl ?_
    refine ev_get frX11_166 dX11_exchange_104 (dom1 (by decide) (by decide) (by decide) (by decide)) en1_0 rfl ?_
    refine ev_iload_n (j := 4) dX11_exchange_107 rfl rfl ?_
    refine ev_iload (j := 0) dX11_exchange_108 rfl ?_
    refine ev_aload_n (j := 2) dX11_exchange_110 rfl rfl ?_
    refine ev_get frX11_10 dX11_exchange_111 dm0_0 en0_0 rfl ?_
    refine ev_get frX11_166 dX11_exchange_114 (dom1 (by decide) (by decide) (by decide) (by decide)) en1_0 rfl ?_
    refine ev_iload_n (j := 3) dX11_exchange_117 rfl rfl ?_
    refine ev_iload (j := 1) dX11_exchange_118 rfl ?_
    refine ev_callVV (As := [iv v2, iv x19, rr G 1 0 11, iv v1, iv x16]) (st := []) mfX2_join mlX11_300 dX11_exchange_120 rfl (dom1 (by decide) (by decide) (by decide) (by decide)) en1_11 rfl rfl rfl (by decide) (by decide) (by decide) (Nat.le_of_ble_eq_true rfl) (fun _ _ z => z.elim) h24 (fun M26 h27 => ?_)
    refine ev_aload_n (j := 2) dX11_exchange_123 rfl rfl ?_
    refine ev_get frX11_16 dX11_exchange_124 dm0_0 en0_0 rfl ?_
    refine ev_callVI (As := []) (st := []) mfX4_areDutiesSound mlX11_97 dX11_exchange_127 rfl (dom1 (by decide) (by decide) (by decide) (by decide)) en1_0 rfl rfl rfl (by decide) (by decide) (by decide) (Nat.le_of_ble_eq_true rfl) (fun _ _ z => z.elim) h27 (fun x31 M29 h30 => ?_)
    obtain ⟨s32, h33⟩ := h30
    obtain ⟨h34, h35⟩ := h33
    refine ev_if_ne 143 dX11_exchange_130 (by decide) s32 (fun c36 => ?_) (fun c36 => ?_)
    · have h37 := h34 c36
      refine ev_aload_n (j := 2) dX11_exchange_143 rfl rfl ?_
      refine ev_get frX11_10 dX11_exchange_144 dm0_0 en0_0 rfl ?_
      refine ev_get frX11_166 dX11_exchange_147 (dom1 (by decide) (by decide) (by decide) (by decide)) en1_0 rfl ?_
      refine ev_get frX11_304 dX11_exchange_150 (dom1 (by decide) (by decide) (by decide) (by decide)) en1_11 rfl ?_
      refine ev_iload_n (j := 3) dX11_exchange_153 rfl rfl ?_
      obtain ⟨s38, s39, h40⟩ := h37
      refine ev_iald dX11_exchange_154 (dom1 (by decide) (by decide) (by decide) (by decide)) ar1_13 (by decide) s38 s39 ?_
      refine ev_iload (j := 1) dX11_exchange_155 rfl ?_
      refine ev_isub dX11_exchange_157 ?_
      refine ev_aload_n (j := 2) dX11_exchange_158 rfl rfl ?_
      refine ev_get frX11_10 dX11_exchange_159 dm0_0 en0_0 rfl ?_
      refine ev_get frX11_166 dX11_exchange_162 (dom1 (by decide) (by decide) (by decide) (by decide)) en1_0 rfl ?_
      refine ev_get frX11_304 dX11_exchange_165 (dom1 (by decide) (by decide) (by decide) (by decide)) en1_11 rfl ?_
      refine ev_iload_n (j := 4) dX11_exchange_168 rfl rfl ?_
      obtain ⟨s41, s42, h43⟩ := h40
      refine ev_iald dX11_exchange_169 (dom1 (by decide) (by decide) (by decide) (by decide)) ar1_13 (by decide) s41 s42 ?_
      refine ev_iadd dX11_exchange_170 ?_
      refine ev_iload (j := 0) dX11_exchange_171 rfl ?_
      refine ev_isub dX11_exchange_173 ?_
      refine ev_istore dX11_exchange_174 (by decide) rfl ?_
      refine ev_aload_n (j := 3) dX11_exchange_176 rfl rfl ?_
      refine ev_callVV (As := []) (st := []) mfX11_adoptDraft mlX11_106 dX11_exchange_177 rfl dm0_0 en0_0 rfl rfl rfl (by decide) (by decide) (by decide) (Nat.le_of_ble_eq_true rfl) (fun _ _ z => z.elim) h43 (fun M44 h45 => ?_)
      refine ev_iload (j := 0) dX11_exchange_180 rfl ?_
      exact ev_iret dX11_exchange_182 (by decide) rfl h45
    · have h47 := h35 c36
      exact thrX11_exchange_133 (by decide) h47
  · have h48 := h11 c12
    exact thrX11_exchange_33 (by decide) h48
def eX11_faultPosition (G : GT) (K : List Value → Mem → Prop) (X : String → Mem → Prop) (pc : Nat) (lv : List (Nat × Value)) (st : List Value) (M : Mem) : Prop := Ex G zX11_faultPosition 0 0 K X 0 pc lv st M
set_option maxRecDepth 20000 in
set_option maxHeartbeats 4000000 in
theorem bX11_faultPosition {G : GT} {K : List Value → Mem → Prop} {X : String → Mem → Prop} {M : Mem} (h : K [iv (M 7 0 0 7)] M) : Call G 0 0 zX11_faultPosition [rr G 0 0 0] M K X := by
  refine call_intro (lv := [(0, rr G 0 0 0)]) (by decide) rfl (Nat.le_of_ble_eq_true rfl) rfl ?_
  refine ev_aload_n (j := 0) dX11_faultPosition_0 rfl rfl ?_
  refine ev_get frX11_57 dX11_faultPosition_1 dm0_0 en0_0 rfl ?_
  refine ev_get frX11_437 dX11_faultPosition_4 dm7_0 en7_0 rfl ?_
  exact ev_iret dX11_faultPosition_7 (by decide) rfl h
def eX11_give (G : GT) (K : List Value → Mem → Prop) (X : String → Mem → Prop) (pc : Nat) (lv : List (Nat × Value)) (st : List Value) (M : Mem) : Prop := Ex G zX11_give 9 3 K X 0 pc lv st M
set_option maxRecDepth 20000 in
set_option maxHeartbeats 4000000 in
theorem bX11_give {G : GT} {K : List Value → Mem → Prop} {X : String → Mem → Prop} {M : Mem} {v1 v2 : Int} (h : Call G 8 1 zX11_requireIndex [iv v1, iv (M 1 0 6 4)] M (kV (fun M1 => Call G 8 1 zX11_requireIndex [iv v2, iv (M1 1 0 11 3)] M1 (kV (fun M4 => Call G 4 0 zX4_reasonAgainst [rr G 1 0 0, iv v1, iv v2] M4 (kI (fun x9 M7 => I32 x9 ∧ ((x9 = 0 → Call G 3 0 zX3_keep [rr G 2 0 0, rr G 1 0 0] M7 (kV (fun M16 => Call G 1 0 zX4_positionFor [rr G 1 0 0, iv v1, iv v2] M16 (kI (fun x21 M19 => Call G 0 0 zX2_insert [rr G 1 0 11, iv v2, iv x21, iv v1] M19 (kV (fun M22 => K [iv x21] M22)) noX)) noX)) noX) ∧ (¬ x9 = 0 → X "java/lang/UnsupportedOperationException" (wr M7 0 0 0 8 x9))))) noX)) X)) X) : Call G 9 3 zX11_give [rr G 0 0 0, iv v1, iv v2] M K X := by
  refine call_intro (lv := [(0, rr G 0 0 0), (1, iv v1), (2, iv v2)]) (by decide) rfl (Nat.le_of_ble_eq_true rfl) rfl ?_
  refine ev_iload_n (j := 1) dX11_give_0 rfl rfl ?_
  refine ev_aload_n (j := 0) dX11_give_1 rfl rfl ?_
  refine ev_get frX11_10 dX11_give_2 dm0_0 en0_0 rfl ?_
  refine ev_get frX11_114 dX11_give_5 (dom1 (by decide) (by decide) (by decide) (by decide)) en1_0 rfl ?_
  refine ev_get frX11_149 dX11_give_8 (dom1 (by decide) (by decide) (by decide) (by decide)) en1_6 rfl ?_
  refine ev_callSV (As := [iv v1, iv (M 1 0 6 4)]) (st := []) mfX11_requireIndex mlX11_65 dX11_give_11 rfl rfl (by decide) (by decide) (by decide) (Nat.le_of_ble_eq_true rfl) (fun _ _ z => z) h (fun M1 h2 => ?_)
  refine ev_iload_n (j := 2) dX11_give_14 rfl rfl ?_
  refine ev_aload_n (j := 0) dX11_give_15 rfl rfl ?_
  refine ev_get frX11_10 dX11_give_16 dm0_0 en0_0 rfl ?_
  refine ev_get frX11_166 dX11_give_19 (dom1 (by decide) (by decide) (by decide) (by decide)) en1_0 rfl ?_
  refine ev_get frX11_217 dX11_give_22 (dom1 (by decide) (by decide) (by decide) (by decide)) en1_11 rfl ?_
  refine ev_callSV (As := [iv v2, iv (M1 1 0 11 3)]) (st := []) mfX11_requireIndex mlX11_65 dX11_give_25 rfl rfl (by decide) (by decide) (by decide) (Nat.le_of_ble_eq_true rfl) (fun _ _ z => z) h2 (fun M4 h5 => ?_)
  refine ev_aload_n (j := 0) dX11_give_28 rfl rfl ?_
  refine ev_get frX11_10 dX11_give_29 dm0_0 en0_0 rfl ?_
  refine ev_iload_n (j := 1) dX11_give_32 rfl rfl ?_
  refine ev_iload_n (j := 2) dX11_give_33 rfl rfl ?_
  refine ev_callVI (As := [iv v1, iv v2]) (st := []) mfX4_reasonAgainst mlX11_268 dX11_give_34 rfl (dom1 (by decide) (by decide) (by decide) (by decide)) en1_0 rfl rfl rfl (by decide) (by decide) (by decide) (Nat.le_of_ble_eq_true rfl) (fun _ _ z => z.elim) h5 (fun x9 M7 h8 => ?_)
  refine ev_istore_n dX11_give_37 rfl (by decide) rfl ?_
  refine ev_iload_n (j := 0) dX11_give_38 rfl rfl ?_
  obtain ⟨s10, h11⟩ := h8
  obtain ⟨h12, h13⟩ := h11
  refine ev_if_eq 58 dX11_give_39 (by decide) s10 (fun c14 => ?_) (fun c14 => ?_)
  · have h15 := h12 c14
    refine ev_aload_n (j := 1) dX11_give_58 rfl rfl ?_
    refine ev_get frX11_22 dX11_give_59 dm0_0 en0_0 rfl ?_
    refine ev_aload_n (j := 1) dX11_give_62 rfl rfl ?_
    refine ev_get frX11_10 dX11_give_63 dm0_0 en0_0 rfl ?_
    refine ev_callVV (As := [rr G 1 0 0]) (st := []) mfX3_keep mlX11_130 dX11_give_66 rfl dm2_0 en2_0 rfl rfl rfl (by decide) (by decide) (by decide) (Nat.le_of_ble_eq_true rfl) (fun _ _ z => z.elim) h15 (fun M16 h17 => ?_)
    refine ev_aload_n (j := 1) dX11_give_69 rfl rfl ?_
    refine ev_get frX11_10 dX11_give_70 dm0_0 en0_0 rfl ?_
    refine ev_iload_n (j := 2) dX11_give_73 rfl rfl ?_
    refine ev_iload_n (j := 3) dX11_give_74 rfl rfl ?_
    refine ev_callVI (As := [iv v1, iv v2]) (st := []) mfX4_positionFor mlX11_276 dX11_give_75 rfl (dom1 (by decide) (by decide) (by decide) (by decide)) en1_0 rfl rfl rfl (by decide) (by decide) (by decide) (Nat.le_of_ble_eq_true rfl) (fun _ _ z => z.elim) h17 (fun x21 M19 h20 => ?_)
    refine ev_istore dX11_give_78 (by decide) rfl ?_
    refine ev_aload_n (j := 2) dX11_give_80 rfl rfl ?_
    refine ev_get frX11_10 dX11_give_81 dm0_0 en0_0 rfl ?_
    refine ev_get frX11_166 dX11_give_84 (dom1 (by decide) (by decide) (by decide) (by decide)) en1_0 rfl ?_
    refine ev_iload_n (j := 4) dX11_give_87 rfl rfl ?_
    refine ev_iload (j := 0) dX11_give_88 rfl ?_
    refine ev_iload_n (j := 3) dX11_give_90 rfl rfl ?_
    refine ev_callVV (As := [iv v2, iv x21, iv v1]) (st := []) mfX2_insert mlX11_279 dX11_give_91 rfl (dom1 (by decide) (by decide) (by decide) (by decide)) en1_11 rfl rfl rfl (by decide) (by decide) (by decide) (Nat.le_of_ble_eq_true rfl) (fun _ _ z => z.elim) h20 (fun M22 h23 => ?_)
    refine ev_iload (j := 0) dX11_give_94 rfl ?_
    exact ev_iret dX11_give_96 (by decide) rfl h23
  · have h25 := h13 c14
    refine ev_aload_n (j := 1) dX11_give_42 rfl rfl ?_
    refine ev_iload_n (j := 0) dX11_give_43 rfl rfl ?_
    refine ev_put fwX11_61 dX11_give_44 dm0_0 en0_0 rfl rfl rfl (Nat.le_of_ble_eq_true rfl) ?_
    exact thrX11_give_47 (by decide) h25
def eX11_giveRound (G : GT) (K : List Value → Mem → Prop) (X : String → Mem → Prop) (pc : Nat) (lv : List (Nat × Value)) (st : List Value) (M : Mem) : Prop := Ex G zX11_giveRound 9 4 K X 0 pc lv st M
set_option maxRecDepth 20000 in
set_option maxHeartbeats 4000000 in
theorem bX11_giveRound {G : GT} {K : List Value → Mem → Prop} {X : String → Mem → Prop} {M : Mem} {v1 v2 v3 : Int} (h : Call G 8 1 zX11_requireIndex [iv v1, iv (M 1 0 6 4)] M (kV (fun M1 => Call G 8 1 zX11_requireIndex [iv v2, iv (M1 1 0 6 4)] M1 (kV (fun M4 => Call G 8 1 zX11_requireIndex [iv v3, iv (M4 1 0 11 3)] M4 (kV (fun M7 => Call G 4 0 zX4_reasonAgainstRound [rr G 1 0 0, iv v1, iv v2, iv v3] M7 (kI (fun x12 M10 => I32 x12 ∧ ((x12 = 0 → Call G 3 0 zX3_keep [rr G 2 0 0, rr G 1 0 0] M10 (kV (fun M19 => Call G 1 0 zX4_positionFor [rr G 1 0 0, iv v1, iv v3] M19 (kI (fun x24 M22 => Call G 0 0 zX2_insert [rr G 1 0 11, iv v3, iv x24, iv v1] M22 (kV (fun M25 => Call G 0 0 zX2_insert [rr G 1 0 11, iv v3, iv (x24 + 1), iv v2] M25 (kV (fun M28 => K [iv x24] M28)) noX)) noX)) noX)) noX) ∧ (¬ x12 = 0 → X "java/lang/UnsupportedOperationException" (wr M10 0 0 0 8 x12))))) noX)) X)) X)) X) : Call G 9 4 zX11_giveRound [rr G 0 0 0, iv v1, iv v2, iv v3] M K X := by
  refine call_intro (lv := [(0, rr G 0 0 0), (1, iv v1), (2, iv v2), (3, iv v3)]) (by decide) rfl (Nat.le_of_ble_eq_true rfl) rfl ?_
  refine ev_iload_n (j := 1) dX11_giveRound_0 rfl rfl ?_
  refine ev_aload_n (j := 0) dX11_giveRound_1 rfl rfl ?_
  refine ev_get frX11_10 dX11_giveRound_2 dm0_0 en0_0 rfl ?_
  refine ev_get frX11_114 dX11_giveRound_5 (dom1 (by decide) (by decide) (by decide) (by decide)) en1_0 rfl ?_
  refine ev_get frX11_149 dX11_giveRound_8 (dom1 (by decide) (by decide) (by decide) (by decide)) en1_6 rfl ?_
  refine ev_callSV (As := [iv v1, iv (M 1 0 6 4)]) (st := []) mfX11_requireIndex mlX11_65 dX11_giveRound_11 rfl rfl (by decide) (by decide) (by decide) (Nat.le_of_ble_eq_true rfl) (fun _ _ z => z) h (fun M1 h2 => ?_)
  refine ev_iload_n (j := 2) dX11_giveRound_14 rfl rfl ?_
  refine ev_aload_n (j := 0) dX11_giveRound_15 rfl rfl ?_
  refine ev_get frX11_10 dX11_giveRound_16 dm0_0 en0_0 rfl ?_
  refine ev_get frX11_114 dX11_giveRound_19 (dom1 (by decide) (by decide) (by decide) (by decide)) en1_0 rfl ?_
  refine ev_get frX11_149 dX11_giveRound_22 (dom1 (by decide) (by decide) (by decide) (by decide)) en1_6 rfl ?_
  refine ev_callSV (As := [iv v2, iv (M1 1 0 6 4)]) (st := []) mfX11_requireIndex mlX11_65 dX11_giveRound_25 rfl rfl (by decide) (by decide) (by decide) (Nat.le_of_ble_eq_true rfl) (fun _ _ z => z) h2 (fun M4 h5 => ?_)
  refine ev_iload_n (j := 3) dX11_giveRound_28 rfl rfl ?_
  refine ev_aload_n (j := 0) dX11_giveRound_29 rfl rfl ?_
  refine ev_get frX11_10 dX11_giveRound_30 dm0_0 en0_0 rfl ?_
  refine ev_get frX11_166 dX11_giveRound_33 (dom1 (by decide) (by decide) (by decide) (by decide)) en1_0 rfl ?_
  refine ev_get frX11_217 dX11_giveRound_36 (dom1 (by decide) (by decide) (by decide) (by decide)) en1_11 rfl ?_
  refine ev_callSV (As := [iv v3, iv (M4 1 0 11 3)]) (st := []) mfX11_requireIndex mlX11_65 dX11_giveRound_39 rfl rfl (by decide) (by decide) (by decide) (Nat.le_of_ble_eq_true rfl) (fun _ _ z => z) h5 (fun M7 h8 => ?_)
  refine ev_aload_n (j := 0) dX11_giveRound_42 rfl rfl ?_
  refine ev_get frX11_10 dX11_giveRound_43 dm0_0 en0_0 rfl ?_
  refine ev_iload_n (j := 1) dX11_giveRound_46 rfl rfl ?_
  refine ev_iload_n (j := 2) dX11_giveRound_47 rfl rfl ?_
  refine ev_iload_n (j := 3) dX11_giveRound_48 rfl rfl ?_
  refine ev_callVI (As := [iv v1, iv v2, iv v3]) (st := []) mfX4_reasonAgainstRound mlX11_283 dX11_giveRound_49 rfl (dom1 (by decide) (by decide) (by decide) (by decide)) en1_0 rfl rfl rfl (by decide) (by decide) (by decide) (Nat.le_of_ble_eq_true rfl) (fun _ _ z => z.elim) h8 (fun x12 M10 h11 => ?_)
  refine ev_istore dX11_giveRound_52 (by decide) rfl ?_
  refine ev_iload (j := 0) dX11_giveRound_54 rfl ?_
  obtain ⟨s13, h14⟩ := h11
  obtain ⟨h15, h16⟩ := h14
  refine ev_if_eq 76 dX11_giveRound_56 (by decide) s13 (fun c17 => ?_) (fun c17 => ?_)
  · have h18 := h15 c17
    refine ev_aload_n (j := 1) dX11_giveRound_76 rfl rfl ?_
    refine ev_get frX11_22 dX11_giveRound_77 dm0_0 en0_0 rfl ?_
    refine ev_aload_n (j := 1) dX11_giveRound_80 rfl rfl ?_
    refine ev_get frX11_10 dX11_giveRound_81 dm0_0 en0_0 rfl ?_
    refine ev_callVV (As := [rr G 1 0 0]) (st := []) mfX3_keep mlX11_130 dX11_giveRound_84 rfl dm2_0 en2_0 rfl rfl rfl (by decide) (by decide) (by decide) (Nat.le_of_ble_eq_true rfl) (fun _ _ z => z.elim) h18 (fun M19 h20 => ?_)
    refine ev_aload_n (j := 1) dX11_giveRound_87 rfl rfl ?_
    refine ev_get frX11_10 dX11_giveRound_88 dm0_0 en0_0 rfl ?_
    refine ev_iload_n (j := 2) dX11_giveRound_91 rfl rfl ?_
    refine ev_iload_n (j := 4) dX11_giveRound_92 rfl rfl ?_
    refine ev_callVI (As := [iv v1, iv v3]) (st := []) mfX4_positionFor mlX11_276 dX11_giveRound_93 rfl (dom1 (by decide) (by decide) (by decide) (by decide)) en1_0 rfl rfl rfl (by decide) (by decide) (by decide) (Nat.le_of_ble_eq_true rfl) (fun _ _ z => z.elim) h20 (fun x24 M22 h23 => ?_)
    refine ev_istore dX11_giveRound_96 (by decide) rfl ?_
    refine ev_aload_n (j := 2) dX11_giveRound_98 rfl rfl ?_
    refine ev_get frX11_10 dX11_giveRound_99 dm0_0 en0_0 rfl ?_
    refine ev_get frX11_166 dX11_giveRound_102 (dom1 (by decide) (by decide) (by decide) (by decide)) en1_0 rfl ?_
    refine ev_iload_n (j := 5) dX11_giveRound_105 rfl rfl ?_
    refine ev_iload (j := 0) dX11_giveRound_106 rfl ?_
    refine ev_iload_n (j := 3) dX11_giveRound_108 rfl rfl ?_
    refine ev_callVV (As := [iv v3, iv x24, iv v1]) (st := []) mfX2_insert mlX11_279 dX11_giveRound_109 rfl (dom1 (by decide) (by decide) (by decide) (by decide)) en1_11 rfl rfl rfl (by decide) (by decide) (by decide) (Nat.le_of_ble_eq_true rfl) (fun _ _ z => z.elim) h23 (fun M25 h26 => ?_)
    refine ev_aload_n (j := 2) dX11_giveRound_112 rfl rfl ?_
    refine ev_get frX11_10 dX11_giveRound_113 dm0_0 en0_0 rfl ?_
    refine ev_get frX11_166 dX11_giveRound_116 (dom1 (by decide) (by decide) (by decide) (by decide)) en1_0 rfl ?_
    refine ev_iload_n (j := 5) dX11_giveRound_119 rfl rfl ?_
    refine ev_iload (j := 0) dX11_giveRound_120 rfl ?_
    refine ev_iconst dX11_giveRound_122 ?_
    refine ev_iadd dX11_giveRound_123 ?_
    refine ev_iload_n (j := 4) dX11_giveRound_124 rfl rfl ?_
    refine ev_callVV (As := [iv v3, iv (x24 + 1), iv v2]) (st := []) mfX2_insert mlX11_279 dX11_giveRound_125 rfl (dom1 (by decide) (by decide) (by decide) (by decide)) en1_11 rfl rfl rfl (by decide) (by decide) (by decide) (Nat.le_of_ble_eq_true rfl) (fun _ _ z => z.elim) h26 (fun M28 h29 => ?_)
    refine ev_iload (j := 0) dX11_giveRound_128 rfl ?_
    exact ev_iret dX11_giveRound_130 (by decide) rfl h29
  · have h31 := h16 c17
    refine ev_aload_n (j := 1) dX11_giveRound_59 rfl rfl ?_
    refine ev_iload (j := 0) dX11_giveRound_60 rfl ?_
    refine ev_put fwX11_61 dX11_giveRound_62 dm0_0 en0_0 rfl rfl rfl (Nat.le_of_ble_eq_true rfl) ?_
    exact thrX11_giveRound_65 (by decide) h31
def eX11_isFromTo (G : GT) (K : List Value → Mem → Prop) (X : String → Mem → Prop) (pc : Nat) (lv : List (Nat × Value)) (st : List Value) (M : Mem) : Prop := Ex G zX11_isFromTo 0 0 K X 0 pc lv st M
set_option maxRecDepth 20000 in
set_option maxHeartbeats 4000000 in
theorem bX11_isFromTo {G : GT} {K : List Value → Mem → Prop} {X : String → Mem → Prop} {M : Mem} {v0 v1 v2 : Int} (h : I32 v1 ∧ I32 v0 ∧ ((v0 < v1 → K [iv 0] M) ∧ (¬ v0 < v1 → I32 v2 ∧ ((v2 < v0 → K [iv 0] M) ∧ (¬ v2 < v0 → K [iv 1] M))))) : Call G 0 0 zX11_isFromTo [iv v0, iv v1, iv v2] M K X := by
  refine call_intro (lv := [(0, iv v0), (1, iv v1), (2, iv v2)]) (by decide) rfl (Nat.le_of_ble_eq_true rfl) rfl ?_
  refine ev_iload_n (j := 1) dX11_isFromTo_0 rfl rfl ?_
  refine ev_iload_n (j := 0) dX11_isFromTo_1 rfl rfl ?_
  obtain ⟨s1, s2, h3⟩ := h
  obtain ⟨h4, h5⟩ := h3
  refine ev_icmp_gt 14 dX11_isFromTo_2 (by decide) s1 s2 (fun c6 => ?_) (fun c6 => ?_)
  · have h7 := h4 c6
    refine ev_iconst dX11_isFromTo_14 ?_
    exact ev_zret dX11_isFromTo_15 (by decide) rfl (by decide) h7
  · have h8 := h5 c6
    refine ev_iload_n (j := 0) dX11_isFromTo_5 rfl rfl ?_
    refine ev_iload_n (j := 2) dX11_isFromTo_6 rfl rfl ?_
    obtain ⟨s9, h10⟩ := h8
    obtain ⟨h11, h12⟩ := h10
    refine ev_icmp_gt 14 dX11_isFromTo_7 (by decide) s2 s9 (fun c13 => ?_) (fun c13 => ?_)
    · have h14 := h11 c13
      refine ev_iconst dX11_isFromTo_14 ?_
      exact ev_zret dX11_isFromTo_15 (by decide) rfl (by decide) h14
    · have h15 := h12 c13
      refine ev_iconst dX11_isFromTo_10 ?_
      refine ev_goto 15 dX11_isFromTo_11 (by decide) ?_
      exact ev_zret dX11_isFromTo_15 (by decide) rfl (by decide) h15
def eX11_leastCost (G : GT) (K : List Value → Mem → Prop) (X : String → Mem → Prop) (pc : Nat) (lv : List (Nat × Value)) (st : List Value) (M : Mem) : Prop := Ex G zX11_leastCost 8 1 K X 0 pc lv st M
set_option maxRecDepth 20000 in
set_option maxHeartbeats 4000000 in
theorem bX11_leastCost {G : GT} {K : List Value → Mem → Prop} {X : String → Mem → Prop} {M : Mem} {v1 : Int} (h : Call G 0 0 zX11_isFromTo [iv v1, iv 0, iv 1000] M (kI (fun x3 M1 => I32 x3 ∧ ((¬ x3 = 0 → Call G 4 0 zX5_leastCostAt [rr G 6 0 0, iv v1, rr G 1 0 0] M1 (kI (fun x12 M10 => K [iv x12] M10)) noX) ∧ (x3 = 0 → X "java/lang/IllegalArgumentException" M1)))) noX) : Call G 8 1 zX11_leastCost [rr G 0 0 0, iv v1] M K X := by
  refine call_intro (lv := [(0, rr G 0 0 0), (1, iv v1)]) (by decide) rfl (Nat.le_of_ble_eq_true rfl) rfl ?_
  refine ev_iload_n (j := 1) dX11_leastCost_0 rfl rfl ?_
  refine ev_iconst dX11_leastCost_1 ?_
  refine ev_sipush dX11_leastCost_2 (by decide) ?_
  refine ev_callSI (As := [iv v1, iv 0, iv 1000]) (st := []) mfX11_isFromTo mlX11_69 dX11_leastCost_5 rfl rfl (by decide) (by decide) (by decide) (Nat.le_of_ble_eq_true rfl) (fun _ _ z => z.elim) h (fun x3 M1 h2 => ?_)
  obtain ⟨s4, h5⟩ := h2
  obtain ⟨h6, h7⟩ := h5
  refine ev_if_ne 22 dX11_leastCost_8 (by decide) s4 (fun c8 => ?_) (fun c8 => ?_)
  · have h9 := h6 c8
    refine ev_aload_n (j := 0) dX11_leastCost_22 rfl rfl ?_
    refine ev_get frX11_43 dX11_leastCost_23 dm0_0 en0_0 rfl ?_
    refine ev_iload_n (j := 1) dX11_leastCost_26 rfl rfl ?_
    refine ev_aload_n (j := 0) dX11_leastCost_27 rfl rfl ?_
    refine ev_get frX11_10 dX11_leastCost_28 dm0_0 en0_0 rfl ?_
    refine ev_callVI (As := [iv v1, rr G 1 0 0]) (st := []) mfX5_leastCostAt mlX11_413 dX11_leastCost_31 rfl dm6_0 en6_0 rfl rfl rfl (by decide) (by decide) (by decide) (Nat.le_of_ble_eq_true rfl) (fun _ _ z => z.elim) h9 (fun x12 M10 h11 => ?_)
    exact ev_iret dX11_leastCost_34 (by decide) rfl h11
  · have h13 := h7 c8
    exact thrX11_leastCost_11 (by decide) h13
def eX11_leastVehicles (G : GT) (K : List Value → Mem → Prop) (X : String → Mem → Prop) (pc : Nat) (lv : List (Nat × Value)) (st : List Value) (M : Mem) : Prop := Ex G zX11_leastVehicles 5 0 K X 0 pc lv st M
set_option maxRecDepth 20000 in
set_option maxHeartbeats 4000000 in
theorem bX11_leastVehicles {G : GT} {K : List Value → Mem → Prop} {X : String → Mem → Prop} {M : Mem} {v1 : Int} (h : I32 v1 ∧ ((v1 = 0 → Call G 0 0 zX8_activeCount [rr G 1 0 6] M (kI (fun x9 M7 => Call G 4 0 zX5_mostPairs [rr G 6 0 0, rr G 1 0 0] M7 (kI (fun x12 M10 => K [iv (x9 - x12)] M10)) noX)) noX) ∧ (¬ v1 = 0 → Call G 2 0 zX6_vehiclesByWaiting [rr G 4 0 0, rr G 1 0 0] M (kI (fun x16 M14 => K [iv x16] M14)) noX))) : Call G 5 0 zX11_leastVehicles [rr G 0 0 0, iv v1] M K X := by
  refine call_intro (lv := [(0, rr G 0 0 0), (1, iv v1)]) (by decide) rfl (Nat.le_of_ble_eq_true rfl) rfl ?_
  refine ev_iload_n (j := 1) dX11_leastVehicles_0 rfl rfl ?_
  obtain ⟨s1, h2⟩ := h
  obtain ⟨h3, h4⟩ := h2
  refine ev_if_eq 16 dX11_leastVehicles_1 (by decide) s1 (fun c5 => ?_) (fun c5 => ?_)
  · have h6 := h3 c5
    refine ev_aload_n (j := 0) dX11_leastVehicles_16 rfl rfl ?_
    refine ev_get frX11_10 dX11_leastVehicles_17 dm0_0 en0_0 rfl ?_
    refine ev_get frX11_114 dX11_leastVehicles_20 (dom1 (by decide) (by decide) (by decide) (by decide)) en1_0 rfl ?_
    refine ev_callVI (As := []) (st := []) mfX8_activeCount mlX11_210 dX11_leastVehicles_23 rfl (dom1 (by decide) (by decide) (by decide) (by decide)) en1_6 rfl rfl rfl (by decide) (by decide) (by decide) (Nat.le_of_ble_eq_true rfl) (fun _ _ z => z.elim) h6 (fun x9 M7 h8 => ?_)
    refine ev_aload_n (j := 0) dX11_leastVehicles_26 rfl rfl ?_
    refine ev_get frX11_43 dX11_leastVehicles_27 dm0_0 en0_0 rfl ?_
    refine ev_aload_n (j := 0) dX11_leastVehicles_30 rfl rfl ?_
    refine ev_get frX11_10 dX11_leastVehicles_31 dm0_0 en0_0 rfl ?_
    refine ev_callVI (As := [rr G 1 0 0]) (st := [iv x9]) mfX5_mostPairs mlX11_408 dX11_leastVehicles_34 rfl dm6_0 en6_0 rfl rfl rfl (by decide) (by decide) (by decide) (Nat.le_of_ble_eq_true rfl) (fun _ _ z => z.elim) h8 (fun x12 M10 h11 => ?_)
    refine ev_isub dX11_leastVehicles_37 ?_
    exact ev_iret dX11_leastVehicles_38 (by decide) rfl h11
  · have h13 := h4 c5
    refine ev_aload_n (j := 0) dX11_leastVehicles_4 rfl rfl ?_
    refine ev_get frX11_36 dX11_leastVehicles_5 dm0_0 en0_0 rfl ?_
    refine ev_aload_n (j := 0) dX11_leastVehicles_8 rfl rfl ?_
    refine ev_get frX11_10 dX11_leastVehicles_9 dm0_0 en0_0 rfl ?_
    refine ev_callVI (As := [rr G 1 0 0]) (st := []) mfX6_vehiclesByWaiting mlX11_404 dX11_leastVehicles_12 rfl dm4_0 en4_0 rfl rfl rfl (by decide) (by decide) (by decide) (Nat.le_of_ble_eq_true rfl) (fun _ _ z => z.elim) h13 (fun x16 M14 h15 => ?_)
    exact ev_iret dX11_leastVehicles_15 (by decide) rfl h15
def eX11_meanDelay (G : GT) (K : List Value → Mem → Prop) (X : String → Mem → Prop) (pc : Nat) (lv : List (Nat × Value)) (st : List Value) (M : Mem) : Prop := Ex G zX11_meanDelay 8 1 K X 0 pc lv st M
set_option maxRecDepth 20000 in
set_option maxHeartbeats 4000000 in
theorem bX11_meanDelay {G : GT} {K : List Value → Mem → Prop} {X : String → Mem → Prop} {M : Mem} (h : Call G 4 0 zX1_pass [rr G 3 0 0, rr G 1 0 0] M (kV (fun M1 => Call G 2 0 zX1_arrivedCount [rr G 3 0 0] M1 (kI (fun x6 M4 => I32 x6 ∧ ((¬ x6 = 0 → Call G 3 0 zX1_delaySum [rr G 3 0 0] M4 (kI (fun x15 M13 => vf_n64 (FP.ddiv (FP.i2d (J x15)) (FP.i2d (J x6))) ∧ K [.double (FP.ddiv (FP.i2d (J x15)) (FP.i2d (J x6)))] M13)) noX) ∧ (x6 = 0 → X "java/lang/ArithmeticException" M4)))) noX)) noX) : Call G 8 1 zX11_meanDelay [rr G 0 0 0] M K X := by
  refine call_intro (lv := [(0, rr G 0 0 0)]) (by decide) rfl (Nat.le_of_ble_eq_true rfl) rfl ?_
  refine ev_aload_n (j := 0) dX11_meanDelay_0 rfl rfl ?_
  refine ev_get frX11_29 dX11_meanDelay_1 dm0_0 en0_0 rfl ?_
  refine ev_aload_n (j := 0) dX11_meanDelay_4 rfl rfl ?_
  refine ev_get frX11_10 dX11_meanDelay_5 dm0_0 en0_0 rfl ?_
  refine ev_callVV (As := [rr G 1 0 0]) (st := []) mfX1_pass mlX11_349 dX11_meanDelay_8 rfl dm3_0 en3_0 rfl rfl rfl (by decide) (by decide) (by decide) (Nat.le_of_ble_eq_true rfl) (fun _ _ z => z.elim) h (fun M1 h2 => ?_)
  refine ev_aload_n (j := 0) dX11_meanDelay_11 rfl rfl ?_
  refine ev_get frX11_29 dX11_meanDelay_12 dm0_0 en0_0 rfl ?_
  refine ev_callVI (As := []) (st := []) mfX1_arrivedCount mlX11_370 dX11_meanDelay_15 rfl dm3_0 en3_0 rfl rfl rfl (by decide) (by decide) (by decide) (Nat.le_of_ble_eq_true rfl) (fun _ _ z => z.elim) h2 (fun x6 M4 h5 => ?_)
  refine ev_istore_n dX11_meanDelay_18 rfl (by decide) rfl ?_
  refine ev_iload_n (j := 0) dX11_meanDelay_19 rfl rfl ?_
  obtain ⟨s7, h8⟩ := h5
  obtain ⟨h9, h10⟩ := h8
  refine ev_if_ne 34 dX11_meanDelay_20 (by decide) s7 (fun c11 => ?_) (fun c11 => ?_)
  · have h12 := h9 c11
    refine ev_aload_n (j := 1) dX11_meanDelay_34 rfl rfl ?_
    refine ev_get frX11_29 dX11_meanDelay_35 dm0_0 en0_0 rfl ?_
    refine ev_callVI (As := []) (st := []) mfX1_delaySum mlX11_373 dX11_meanDelay_38 rfl dm3_0 en3_0 rfl rfl rfl (by decide) (by decide) (by decide) (Nat.le_of_ble_eq_true rfl) (fun _ _ z => z.elim) h12 (fun x15 M13 h14 => ?_)
    refine ev_i2d dX11_meanDelay_41 ?_
    refine ev_iload_n (j := 0) dX11_meanDelay_42 rfl rfl ?_
    refine ev_i2d dX11_meanDelay_43 ?_
    obtain ⟨s16, h17⟩ := h14
    refine ev_ddiv dX11_meanDelay_44 s16 ?_
    exact ev_dret dX11_meanDelay_45 (by decide) rfl h17
  · have h18 := h10 c11
    exact thrX11_meanDelay_23 (by decide) h18
def eX11_meanHeadway (G : GT) (K : List Value → Mem → Prop) (X : String → Mem → Prop) (pc : Nat) (lv : List (Nat × Value)) (st : List Value) (M : Mem) : Prop := Ex G zX11_meanHeadway 9 3 K X 0 pc lv st M
set_option maxRecDepth 20000 in
set_option maxHeartbeats 4000000 in
theorem bX11_meanHeadway {G : GT} {K : List Value → Mem → Prop} {X : String → Mem → Prop} {M : Mem} {v1 v2 : Int} (h : Call G 8 1 zX11_requireIndex [iv v1, iv 2] M (kV (fun M1 => Call G 8 1 zX11_requireIndex [iv v2, iv 12] M1 (kV (fun M4 => Call G 2 0 zX4_listPassages [rr G 1 0 0, iv v1, iv v2, rr G 5 0 0] M4 (kV (fun M7 => I32 ((M7 5 0 0 2) - 1) ∧ ((¬ ((M7 5 0 0 2) - 1) < 1 → Call G 0 0 zX7_span [rr G 5 0 0] M7 (kI (fun x18 M16 => vf_n64 (FP.ddiv (FP.i2d (J x18)) (FP.i2d (J ((M7 5 0 0 2) - 1)))) ∧ K [.double (FP.ddiv (FP.i2d (J x18)) (FP.i2d (J ((M7 5 0 0 2) - 1))))] M16)) noX) ∧ (((M7 5 0 0 2) - 1) < 1 → X "java/lang/ArithmeticException" M7)))) noX)) X)) X) : Call G 9 3 zX11_meanHeadway [rr G 0 0 0, iv v1, iv v2] M K X := by
  refine call_intro (lv := [(0, rr G 0 0 0), (1, iv v1), (2, iv v2)]) (by decide) rfl (Nat.le_of_ble_eq_true rfl) rfl ?_
  refine ev_iload_n (j := 1) dX11_meanHeadway_0 rfl rfl ?_
  refine ev_iconst dX11_meanHeadway_1 ?_
  refine ev_callSV (As := [iv v1, iv 2]) (st := []) mfX11_requireIndex mlX11_65 dX11_meanHeadway_2 rfl rfl (by decide) (by decide) (by decide) (Nat.le_of_ble_eq_true rfl) (fun _ _ z => z) h (fun M1 h2 => ?_)
  refine ev_iload_n (j := 2) dX11_meanHeadway_5 rfl rfl ?_
  refine ev_bipush dX11_meanHeadway_6 (by decide) ?_
  refine ev_callSV (As := [iv v2, iv 12]) (st := []) mfX11_requireIndex mlX11_65 dX11_meanHeadway_8 rfl rfl (by decide) (by decide) (by decide) (Nat.le_of_ble_eq_true rfl) (fun _ _ z => z) h2 (fun M4 h5 => ?_)
  refine ev_aload_n (j := 0) dX11_meanHeadway_11 rfl rfl ?_
  refine ev_get frX11_10 dX11_meanHeadway_12 dm0_0 en0_0 rfl ?_
  refine ev_iload_n (j := 1) dX11_meanHeadway_15 rfl rfl ?_
  refine ev_iload_n (j := 2) dX11_meanHeadway_16 rfl rfl ?_
  refine ev_aload_n (j := 0) dX11_meanHeadway_17 rfl rfl ?_
  refine ev_get frX11_50 dX11_meanHeadway_18 dm0_0 en0_0 rfl ?_
  refine ev_callVV (As := [iv v1, iv v2, rr G 5 0 0]) (st := []) mfX4_listPassages mlX11_233 dX11_meanHeadway_21 rfl (dom1 (by decide) (by decide) (by decide) (by decide)) en1_0 rfl rfl rfl (by decide) (by decide) (by decide) (Nat.le_of_ble_eq_true rfl) (fun _ _ z => z.elim) h5 (fun M7 h8 => ?_)
  refine ev_aload_n (j := 0) dX11_meanHeadway_24 rfl rfl ?_
  refine ev_get frX11_50 dX11_meanHeadway_25 dm0_0 en0_0 rfl ?_
  refine ev_get frX11_237 dX11_meanHeadway_28 (dom5 (by decide) (by decide) (by decide) (by decide)) en5_0 rfl ?_
  refine ev_iconst dX11_meanHeadway_31 ?_
  refine ev_isub dX11_meanHeadway_32 ?_
  refine ev_istore_n dX11_meanHeadway_33 rfl (by decide) rfl ?_
  refine ev_iload_n (j := 0) dX11_meanHeadway_34 rfl rfl ?_
  refine ev_iconst dX11_meanHeadway_35 ?_
  obtain ⟨s10, h11⟩ := h8
  obtain ⟨h12, h13⟩ := h11
  refine ev_icmp_ge 49 dX11_meanHeadway_36 (by decide) s10 ⟨by decide, by decide⟩ (fun c14 => ?_) (fun c14 => ?_)
  · have h15 := h12 c14
    refine ev_aload_n (j := 1) dX11_meanHeadway_49 rfl rfl ?_
    refine ev_get frX11_50 dX11_meanHeadway_50 dm0_0 en0_0 rfl ?_
    refine ev_callVI (As := []) (st := []) mfX7_span mlX11_260 dX11_meanHeadway_53 rfl (dom5 (by decide) (by decide) (by decide) (by decide)) en5_0 rfl rfl rfl (by decide) (by decide) (by decide) (Nat.le_of_ble_eq_true rfl) (fun _ _ z => z.elim) h15 (fun x18 M16 h17 => ?_)
    refine ev_i2d dX11_meanHeadway_56 ?_
    refine ev_iload_n (j := 0) dX11_meanHeadway_57 rfl rfl ?_
    refine ev_i2d dX11_meanHeadway_58 ?_
    obtain ⟨s19, h20⟩ := h17
    refine ev_ddiv dX11_meanHeadway_59 s19 ?_
    exact ev_dret dX11_meanHeadway_60 (by decide) rfl h20
  · have h21 := h13 c14
    exact thrX11_meanHeadway_39 (by decide) h21
def eX11_readTrips (G : GT) (K : List Value → Mem → Prop) (X : String → Mem → Prop) (pc : Nat) (lv : List (Nat × Value)) (st : List Value) (M : Mem) : Prop := Ex G zX11_readTrips 8 1 K X 0 pc lv st M
set_option maxRecDepth 20000 in
set_option maxHeartbeats 4000000 in
theorem bX11_readTrips {G : GT} {K : List Value → Mem → Prop} {X : String → Mem → Prop} {M : Mem} (h : Call G 3 0 zX10_parse [rr G 7 0 0] M (kV (fun M1 => I32 (M1 7 0 0 7) ∧ (((M1 7 0 0 7) = (-1) → Call G 2 0 zX10_canBeAddedTo [rr G 7 0 0, rr G 1 0 0] M1 (kI (fun x12 M10 => I32 x12 ∧ ((¬ x12 = 0 → Call G 3 0 zX3_keep [rr G 2 0 0, rr G 1 0 0] M10 (kV (fun M19 => Call G 1 0 zX10_addTo [rr G 7 0 0, rr G 1 0 0] M19 (kV (fun M22 => K [iv (M22 7 0 0 6)] M22)) noX)) noX) ∧ (x12 = 0 → X "java/lang/IllegalStateException" M10)))) noX) ∧ (¬ (M1 7 0 0 7) = (-1) → X "java/lang/IllegalArgumentException" M1)))) noX) : Call G 8 1 zX11_readTrips [rr G 0 0 0] M K X := by
  refine call_intro (lv := [(0, rr G 0 0 0)]) (by decide) rfl (Nat.le_of_ble_eq_true rfl) rfl ?_
  refine ev_aload_n (j := 0) dX11_readTrips_0 rfl rfl ?_
  refine ev_get frX11_57 dX11_readTrips_1 dm0_0 en0_0 rfl ?_
  refine ev_callVV (As := []) (st := []) mfX10_parse mlX11_434 dX11_readTrips_4 rfl dm7_0 en7_0 rfl rfl rfl (by decide) (by decide) (by decide) (Nat.le_of_ble_eq_true rfl) (fun _ _ z => z.elim) h (fun M1 h2 => ?_)
  refine ev_aload_n (j := 0) dX11_readTrips_7 rfl rfl ?_
  refine ev_get frX11_57 dX11_readTrips_8 dm0_0 en0_0 rfl ?_
  refine ev_get frX11_437 dX11_readTrips_11 dm7_0 en7_0 rfl ?_
  refine ev_iconst dX11_readTrips_14 ?_
  obtain ⟨s4, h5⟩ := h2
  obtain ⟨h6, h7⟩ := h5
  refine ev_icmp_eq 29 dX11_readTrips_15 (by decide) s4 ⟨by decide, by decide⟩ (fun c8 => ?_) (fun c8 => ?_)
  · have h9 := h6 c8
    refine ev_aload_n (j := 0) dX11_readTrips_29 rfl rfl ?_
    refine ev_get frX11_57 dX11_readTrips_30 dm0_0 en0_0 rfl ?_
    refine ev_aload_n (j := 0) dX11_readTrips_33 rfl rfl ?_
    refine ev_get frX11_10 dX11_readTrips_34 dm0_0 en0_0 rfl ?_
    refine ev_callVI (As := [rr G 1 0 0]) (st := []) mfX10_canBeAddedTo mlX11_442 dX11_readTrips_37 rfl dm7_0 en7_0 rfl rfl rfl (by decide) (by decide) (by decide) (Nat.le_of_ble_eq_true rfl) (fun _ _ z => z.elim) h9 (fun x12 M10 h11 => ?_)
    obtain ⟨s13, h14⟩ := h11
    obtain ⟨h15, h16⟩ := h14
    refine ev_if_ne 54 dX11_readTrips_40 (by decide) s13 (fun c17 => ?_) (fun c17 => ?_)
    · have h18 := h15 c17
      refine ev_aload_n (j := 0) dX11_readTrips_54 rfl rfl ?_
      refine ev_get frX11_22 dX11_readTrips_55 dm0_0 en0_0 rfl ?_
      refine ev_aload_n (j := 0) dX11_readTrips_58 rfl rfl ?_
      refine ev_get frX11_10 dX11_readTrips_59 dm0_0 en0_0 rfl ?_
      refine ev_callVV (As := [rr G 1 0 0]) (st := []) mfX3_keep mlX11_130 dX11_readTrips_62 rfl dm2_0 en2_0 rfl rfl rfl (by decide) (by decide) (by decide) (Nat.le_of_ble_eq_true rfl) (fun _ _ z => z.elim) h18 (fun M19 h20 => ?_)
      refine ev_aload_n (j := 0) dX11_readTrips_65 rfl rfl ?_
      refine ev_get frX11_57 dX11_readTrips_66 dm0_0 en0_0 rfl ?_
      refine ev_aload_n (j := 0) dX11_readTrips_69 rfl rfl ?_
      refine ev_get frX11_10 dX11_readTrips_70 dm0_0 en0_0 rfl ?_
      refine ev_callVV (As := [rr G 1 0 0]) (st := []) mfX10_addTo mlX11_448 dX11_readTrips_73 rfl dm7_0 en7_0 rfl rfl rfl (by decide) (by decide) (by decide) (Nat.le_of_ble_eq_true rfl) (fun _ _ z => z.elim) h20 (fun M22 h23 => ?_)
      refine ev_aload_n (j := 0) dX11_readTrips_76 rfl rfl ?_
      refine ev_get frX11_57 dX11_readTrips_77 dm0_0 en0_0 rfl ?_
      refine ev_get frX11_450 dX11_readTrips_80 dm7_0 en7_0 rfl ?_
      exact ev_iret dX11_readTrips_83 (by decide) rfl h23
    · have h25 := h16 c17
      exact thrX11_readTrips_43 (by decide) h25
  · have h26 := h7 c8
    exact thrX11_readTrips_18 (by decide) h26
def eX11_relink (G : GT) (K : List Value → Mem → Prop) (X : String → Mem → Prop) (pc : Nat) (lv : List (Nat × Value)) (st : List Value) (M : Mem) : Prop := Ex G zX11_relink 6 0 K X 0 pc lv st M
set_option maxRecDepth 20000 in
set_option maxHeartbeats 4000000 in
theorem bX11_relink {G : GT} {K : List Value → Mem → Prop} {X : String → Mem → Prop} {M : Mem} (h : Call G 3 0 zX3_keep [rr G 2 0 0, rr G 1 0 0] M (kV (fun M1 => Call G 5 0 zX6_linkAnew [rr G 4 0 0, rr G 1 0 0] M1 (kI (fun x6 M4 => K [iv x6] M4)) noX)) noX) : Call G 6 0 zX11_relink [rr G 0 0 0] M K X := by
  refine call_intro (lv := [(0, rr G 0 0 0)]) (by decide) rfl (Nat.le_of_ble_eq_true rfl) rfl ?_
  refine ev_aload_n (j := 0) dX11_relink_0 rfl rfl ?_
  refine ev_get frX11_22 dX11_relink_1 dm0_0 en0_0 rfl ?_
  refine ev_aload_n (j := 0) dX11_relink_4 rfl rfl ?_
  refine ev_get frX11_10 dX11_relink_5 dm0_0 en0_0 rfl ?_
  refine ev_callVV (As := [rr G 1 0 0]) (st := []) mfX3_keep mlX11_130 dX11_relink_8 rfl dm2_0 en2_0 rfl rfl rfl (by decide) (by decide) (by decide) (Nat.le_of_ble_eq_true rfl) (fun _ _ z => z.elim) h (fun M1 h2 => ?_)
  refine ev_aload_n (j := 0) dX11_relink_11 rfl rfl ?_
  refine ev_get frX11_36 dX11_relink_12 dm0_0 en0_0 rfl ?_
  refine ev_aload_n (j := 0) dX11_relink_15 rfl rfl ?_
  refine ev_get frX11_10 dX11_relink_16 dm0_0 en0_0 rfl ?_
  refine ev_callVI (As := [rr G 1 0 0]) (st := []) mfX6_linkAnew mlX11_422 dX11_relink_19 rfl dm4_0 en4_0 rfl rfl rfl (by decide) (by decide) (by decide) (Nat.le_of_ble_eq_true rfl) (fun _ _ z => z.elim) h2 (fun x6 M4 h5 => ?_)
  exact ev_iret dX11_relink_22 (by decide) rfl h5
def eX11_requireIndex (G : GT) (K : List Value → Mem → Prop) (X : String → Mem → Prop) (pc : Nat) (lv : List (Nat × Value)) (st : List Value) (M : Mem) : Prop := Ex G zX11_requireIndex 8 1 K X 0 pc lv st M
set_option maxRecDepth 20000 in
set_option maxHeartbeats 4000000 in
theorem bX11_requireIndex {G : GT} {K : List Value → Mem → Prop} {X : String → Mem → Prop} {M : Mem} {v0 v1 : Int} (h : I32 v0 ∧ ((v0 < 0 → X "java/lang/IndexOutOfBoundsException" M) ∧ (¬ v0 < 0 → I32 v1 ∧ ((v0 < v1 → K [] M) ∧ (¬ v0 < v1 → X "java/lang/IndexOutOfBoundsException" M))))) : Call G 8 1 zX11_requireIndex [iv v0, iv v1] M K X := by
  refine call_intro (lv := [(0, iv v0), (1, iv v1)]) (by decide) rfl (Nat.le_of_ble_eq_true rfl) rfl ?_
  refine ev_iload_n (j := 0) dX11_requireIndex_0 rfl rfl ?_
  obtain ⟨s1, h2⟩ := h
  obtain ⟨h3, h4⟩ := h2
  refine ev_if_lt 9 dX11_requireIndex_1 (by decide) s1 (fun c5 => ?_) (fun c5 => ?_)
  · have h6 := h3 c5
    exact thrX11_requireIndex_9 (by decide) h6
  · have h7 := h4 c5
    refine ev_iload_n (j := 0) dX11_requireIndex_4 rfl rfl ?_
    refine ev_iload_n (j := 1) dX11_requireIndex_5 rfl rfl ?_
    obtain ⟨s8, h9⟩ := h7
    obtain ⟨h10, h11⟩ := h9
    refine ev_icmp_lt 20 dX11_requireIndex_6 (by decide) s1 s8 (fun c12 => ?_) (fun c12 => ?_)
    · have h13 := h10 c12
      exact ev_vret dX11_requireIndex_20 (by decide) rfl h13
    · have h14 := h11 c12
      exact thrX11_requireIndex_9 (by decide) h14
def eX11_restore (G : GT) (K : List Value → Mem → Prop) (X : String → Mem → Prop) (pc : Nat) (lv : List (Nat × Value)) (st : List Value) (M : Mem) : Prop := Ex G zX11_restore 8 1 K X 0 pc lv st M
set_option maxRecDepth 20000 in
set_option maxHeartbeats 4000000 in
theorem bX11_restore {G : GT} {K : List Value → Mem → Prop} {X : String → Mem → Prop} {M : Mem} (h : I32 (M 2 0 0 3) ∧ ((¬ (M 2 0 0 3) = 0 → Call G 3 0 zX3_bringBack [rr G 2 0 0, rr G 1 0 0] M (kV (fun M7 => K [] M7)) noX) ∧ ((M 2 0 0 3) = 0 → X "java/lang/IllegalStateException" M))) : Call G 8 1 zX11_restore [rr G 0 0 0] M K X := by
  refine call_intro (lv := [(0, rr G 0 0 0)]) (by decide) rfl (Nat.le_of_ble_eq_true rfl) rfl ?_
  refine ev_aload_n (j := 0) dX11_restore_0 rfl rfl ?_
  refine ev_get frX11_22 dX11_restore_1 dm0_0 en0_0 rfl ?_
  refine ev_get frX11_460 dX11_restore_4 dm2_0 en2_0 rfl ?_
  obtain ⟨s1, h2⟩ := h
  obtain ⟨h3, h4⟩ := h2
  refine ev_if_ne 21 dX11_restore_7 (by decide) s1 (fun c5 => ?_) (fun c5 => ?_)
  · have h6 := h3 c5
    refine ev_aload_n (j := 0) dX11_restore_21 rfl rfl ?_
    refine ev_get frX11_22 dX11_restore_22 dm0_0 en0_0 rfl ?_
    refine ev_aload_n (j := 0) dX11_restore_25 rfl rfl ?_
    refine ev_get frX11_10 dX11_restore_26 dm0_0 en0_0 rfl ?_
    refine ev_callVV (As := [rr G 1 0 0]) (st := []) mfX3_bringBack mlX11_466 dX11_restore_29 rfl dm2_0 en2_0 rfl rfl rfl (by decide) (by decide) (by decide) (Nat.le_of_ble_eq_true rfl) (fun _ _ z => z.elim) h6 (fun M7 h8 => ?_)
    exact ev_vret dX11_restore_32 (by decide) rfl h8
  · have h10 := h4 c5
    exact thrX11_restore_10 (by decide) h10
def eX11_run (G : GT) (K : List Value → Mem → Prop) (X : String → Mem → Prop) (pc : Nat) (lv : List (Nat × Value)) (st : List Value) (M : Mem) : Prop := Ex G zX11_run 8 1 K X 0 pc lv st M
set_option maxRecDepth 20000 in
set_option maxHeartbeats 4000000 in
theorem bX11_run {G : GT} {K : List Value → Mem → Prop} {X : String → Mem → Prop} {M : Mem} {v1 : Int} (h : Call G 0 0 zX11_isFromTo [iv v1, iv 0, iv 6] M (kI (fun x3 M1 => I32 x3 ∧ ((¬ x3 = 0 → Call G 4 0 zX1_pass [rr G 3 0 0, rr G 1 0 0] M1 (kV (fun M10 => I32 v1 ∧ ((v1 = 0 → Call G 2 0 zX1_arrivedCount [rr G 3 0 0] M10 (kI (fun x25 M23 => K [iv x25] M23)) noX) ∧ (v1 = 1 → Call G 0 0 zX2_tripsInDuties [rr G 1 0 11] M10 (kI (fun x29 M27 => Call G 2 0 zX1_arrivedCount [rr G 3 0 0] M27 (kI (fun x32 M30 => K [iv (x29 - x32)] M30)) noX)) noX) ∧ (v1 = 2 → Call G 3 0 zX1_delaySum [rr G 3 0 0] M10 (kI (fun x36 M34 => K [iv x36] M34)) noX) ∧ (v1 = 3 → Call G 3 0 zX1_greatestDelay [rr G 3 0 0] M10 (kI (fun x40 M38 => K [iv x40] M38)) noX) ∧ (v1 = 4 → K [iv (M10 3 0 0 2)] M10) ∧ (v1 = 5 → K [iv (M10 3 0 0 3)] M10) ∧ ((v1 < 0 ∨ 5 < v1) → K [iv (M10 3 0 0 4)] M10)))) noX) ∧ (x3 = 0 → X "java/lang/IllegalArgumentException" M1)))) noX) : Call G 8 1 zX11_run [rr G 0 0 0, iv v1] M K X := by
  refine call_intro (lv := [(0, rr G 0 0 0), (1, iv v1)]) (by decide) rfl (Nat.le_of_ble_eq_true rfl) rfl ?_
  refine ev_iload_n (j := 1) dX11_run_0 rfl rfl ?_
  refine ev_iconst dX11_run_1 ?_
  refine ev_bipush dX11_run_2 (by decide) ?_
  refine ev_callSI (As := [iv v1, iv 0, iv 6]) (st := []) mfX11_isFromTo mlX11_69 dX11_run_4 rfl rfl (by decide) (by decide) (by decide) (Nat.le_of_ble_eq_true rfl) (fun _ _ z => z.elim) h (fun x3 M1 h2 => ?_)
  obtain ⟨s4, h5⟩ := h2
  obtain ⟨h6, h7⟩ := h5
  refine ev_if_ne 21 dX11_run_7 (by decide) s4 (fun c8 => ?_) (fun c8 => ?_)
  · have h9 := h6 c8
    refine ev_aload_n (j := 0) dX11_run_21 rfl rfl ?_
    refine ev_get frX11_29 dX11_run_22 dm0_0 en0_0 rfl ?_
    refine ev_aload_n (j := 0) dX11_run_25 rfl rfl ?_
    refine ev_get frX11_10 dX11_run_26 dm0_0 en0_0 rfl ?_
    refine ev_callVV (As := [rr G 1 0 0]) (st := []) mfX1_pass mlX11_349 dX11_run_29 rfl dm3_0 en3_0 rfl rfl rfl (by decide) (by decide) (by decide) (Nat.le_of_ble_eq_true rfl) (fun _ _ z => z.elim) h9 (fun M10 h11 => ?_)
    refine ev_iload_n (j := 1) dX11_run_32 rfl rfl ?_
    obtain ⟨s13, h14⟩ := h11
    obtain ⟨h15, h16, h17, h18, h19, h20, h21⟩ := h14
    refine ev_tsw dX11_run_33 s13 (by decide) (fun j9 o9 hj9 ha9 t9 ht9 _ => ?_) (fun j9 o9 hj9 => ?_) (fun c9 t9 ht9 => ?_) (by decide)
    · have hb9 : j9 < 6 := (Array.getElem?_eq_some_iff.mp hj9).1
      rcases (show j9 = 0 ∨ j9 = 1 ∨ j9 = 2 ∨ j9 = 3 ∨ j9 = 4 ∨ j9 = 5 by omega) with rfl | rfl | rfl | rfl | rfl | rfl
      · obtain rfl : o9 = (39 : Int) := (Option.some.inj (show some (39 : Int) = some o9 from hj9)).symm
        obtain rfl : t9 = 72 := by omega
        have h22 := h15 (by omega)
        refine ev_aload_n (j := 0) dX11_run_72 rfl rfl ?_
        refine ev_get frX11_29 dX11_run_73 dm0_0 en0_0 rfl ?_
        refine ev_callVI (As := []) (st := []) mfX1_arrivedCount mlX11_370 dX11_run_76 rfl dm3_0 en3_0 rfl rfl rfl (by decide) (by decide) (by decide) (Nat.le_of_ble_eq_true rfl) (fun _ _ z => z.elim) h22 (fun x25 M23 h24 => ?_)
        exact ev_iret dX11_run_79 (by decide) rfl h24
      · obtain rfl : o9 = (47 : Int) := (Option.some.inj (show some (47 : Int) = some o9 from hj9)).symm
        obtain rfl : t9 = 80 := by omega
        have h26 := h16 (by omega)
        refine ev_aload_n (j := 0) dX11_run_80 rfl rfl ?_
        refine ev_get frX11_10 dX11_run_81 dm0_0 en0_0 rfl ?_
        refine ev_get frX11_166 dX11_run_84 (dom1 (by decide) (by decide) (by decide) (by decide)) en1_0 rfl ?_
        refine ev_callVI (As := []) (st := []) mfX2_tripsInDuties mlX11_214 dX11_run_87 rfl (dom1 (by decide) (by decide) (by decide) (by decide)) en1_11 rfl rfl rfl (by decide) (by decide) (by decide) (Nat.le_of_ble_eq_true rfl) (fun _ _ z => z.elim) h26 (fun x29 M27 h28 => ?_)
        refine ev_aload_n (j := 0) dX11_run_90 rfl rfl ?_
        refine ev_get frX11_29 dX11_run_91 dm0_0 en0_0 rfl ?_
        refine ev_callVI (As := []) (st := [iv x29]) mfX1_arrivedCount mlX11_370 dX11_run_94 rfl dm3_0 en3_0 rfl rfl rfl (by decide) (by decide) (by decide) (Nat.le_of_ble_eq_true rfl) (fun _ _ z => z.elim) h28 (fun x32 M30 h31 => ?_)
        refine ev_isub dX11_run_97 ?_
        exact ev_iret dX11_run_98 (by decide) rfl h31
      · obtain rfl : o9 = (66 : Int) := (Option.some.inj (show some (66 : Int) = some o9 from hj9)).symm
        obtain rfl : t9 = 99 := by omega
        have h33 := h17 (by omega)
        refine ev_aload_n (j := 0) dX11_run_99 rfl rfl ?_
        refine ev_get frX11_29 dX11_run_100 dm0_0 en0_0 rfl ?_
        refine ev_callVI (As := []) (st := []) mfX1_delaySum mlX11_373 dX11_run_103 rfl dm3_0 en3_0 rfl rfl rfl (by decide) (by decide) (by decide) (Nat.le_of_ble_eq_true rfl) (fun _ _ z => z.elim) h33 (fun x36 M34 h35 => ?_)
        exact ev_iret dX11_run_106 (by decide) rfl h35
      · obtain rfl : o9 = (74 : Int) := (Option.some.inj (show some (74 : Int) = some o9 from hj9)).symm
        obtain rfl : t9 = 107 := by omega
        have h37 := h18 (by omega)
        refine ev_aload_n (j := 0) dX11_run_107 rfl rfl ?_
        refine ev_get frX11_29 dX11_run_108 dm0_0 en0_0 rfl ?_
        refine ev_callVI (As := []) (st := []) mfX1_greatestDelay mlX11_376 dX11_run_111 rfl dm3_0 en3_0 rfl rfl rfl (by decide) (by decide) (by decide) (Nat.le_of_ble_eq_true rfl) (fun _ _ z => z.elim) h37 (fun x40 M38 h39 => ?_)
        exact ev_iret dX11_run_114 (by decide) rfl h39
      · obtain rfl : o9 = (82 : Int) := (Option.some.inj (show some (82 : Int) = some o9 from hj9)).symm
        obtain rfl : t9 = 115 := by omega
        have h41 := h19 (by omega)
        refine ev_aload_n (j := 0) dX11_run_115 rfl rfl ?_
        refine ev_get frX11_29 dX11_run_116 dm0_0 en0_0 rfl ?_
        refine ev_get frX11_379 dX11_run_119 dm3_0 en3_0 rfl ?_
        exact ev_iret dX11_run_122 (by decide) rfl h41
      · obtain rfl : o9 = (90 : Int) := (Option.some.inj (show some (90 : Int) = some o9 from hj9)).symm
        obtain rfl : t9 = 123 := by omega
        have h42 := h20 (by omega)
        refine ev_aload_n (j := 0) dX11_run_123 rfl rfl ?_
        refine ev_get frX11_29 dX11_run_124 dm0_0 en0_0 rfl ?_
        refine ev_get frX11_381 dX11_run_127 dm3_0 en3_0 rfl ?_
        exact ev_iret dX11_run_130 (by decide) rfl h42
    · have hb9 : j9 < 6 := (Array.getElem?_eq_some_iff.mp hj9).1
      rcases (show j9 = 0 ∨ j9 = 1 ∨ j9 = 2 ∨ j9 = 3 ∨ j9 = 4 ∨ j9 = 5 by omega) with rfl | rfl | rfl | rfl | rfl | rfl <;> (have hj8 := Option.some.inj hj9; revert hj8; intro hj8; subst hj8; decide)
    · obtain rfl : t9 = 131 := by omega
      have h43 := h21 c9
      refine ev_aload_n (j := 0) dX11_run_131 rfl rfl ?_
      refine ev_get frX11_29 dX11_run_132 dm0_0 en0_0 rfl ?_
      refine ev_get frX11_384 dX11_run_135 dm3_0 en3_0 rfl ?_
      exact ev_iret dX11_run_138 (by decide) rfl h43
  · have h44 := h7 c8
    exact thrX11_run_10 (by decide) h44
def eX11_save (G : GT) (K : List Value → Mem → Prop) (X : String → Mem → Prop) (pc : Nat) (lv : List (Nat × Value)) (st : List Value) (M : Mem) : Prop := Ex G zX11_save 4 0 K X 0 pc lv st M
set_option maxRecDepth 20000 in
set_option maxHeartbeats 4000000 in
theorem bX11_save {G : GT} {K : List Value → Mem → Prop} {X : String → Mem → Prop} {M : Mem} (h : Call G 3 0 zX3_saveCopy [rr G 2 0 0, rr G 1 0 0] M (kV (fun M1 => K [] M1)) noX) : Call G 4 0 zX11_save [rr G 0 0 0] M K X := by
  refine call_intro (lv := [(0, rr G 0 0 0)]) (by decide) rfl (Nat.le_of_ble_eq_true rfl) rfl ?_
  refine ev_aload_n (j := 0) dX11_save_0 rfl rfl ?_
  refine ev_get frX11_22 dX11_save_1 dm0_0 en0_0 rfl ?_
  refine ev_aload_n (j := 0) dX11_save_4 rfl rfl ?_
  refine ev_get frX11_10 dX11_save_5 dm0_0 en0_0 rfl ?_
  refine ev_callVV (As := [rr G 1 0 0]) (st := []) mfX3_saveCopy mlX11_457 dX11_save_8 rfl dm2_0 en2_0 rfl rfl rfl (by decide) (by decide) (by decide) (Nat.le_of_ble_eq_true rfl) (fun _ _ z => z.elim) h (fun M1 h2 => ?_)
  exact ev_vret dX11_save_11 (by decide) rfl h2
def eX11_set (G : GT) (K : List Value → Mem → Prop) (X : String → Mem → Prop) (pc : Nat) (lv : List (Nat × Value)) (st : List Value) (M : Mem) : Prop := Ex G zX11_set 9 2 K X 0 pc lv st M
set_option maxRecDepth 20000 in
set_option maxHeartbeats 4000000 in
theorem bX11_set {G : GT} {K : List Value → Mem → Prop} {X : String → Mem → Prop} {M : Mem} {v1 v2 : Int} (h : Call G 8 1 zX11_requireIndex [iv v1, iv 3] M (kV (fun M1 => 0 ≤ v1 ∧ v1 < 3 ∧ Call G 0 0 zX11_isFromTo [iv v2, iv (([0, 1, 0] : List Int).getD (v1).toNat 0), iv (([20, 30, 10] : List Int).getD (v1).toNat 0)] M1 (kI (fun x13 M11 => I32 x13 ∧ ((¬ x13 = 0 → Call G 2 0 zX4_copyFrom [rr G 1 1 0, rr G 1 0 0] M11 (kV (fun M20 => Call G 4 0 zX4_areDutiesSound [rr G 1 1 0] (wr M20 1 1 5 v1 v2) (kI (fun x25 M23 => I32 x25 ∧ ((¬ x25 = 0 → Call G 4 0 zX11_adoptDraft [rr G 0 0 0] M23 (kV (fun M32 => K [iv (M11 1 0 5 v1)] M32)) noX) ∧ (x25 = 0 → X "java/lang/IllegalStateException" M23)))) noX)) noX) ∧ (x13 = 0 → X "java/lang/IllegalArgumentException" M11)))) noX)) X) : Call G 9 2 zX11_set [rr G 0 0 0, iv v1, iv v2] M K X := by
  refine call_intro (lv := [(0, rr G 0 0 0), (1, iv v1), (2, iv v2)]) (by decide) rfl (Nat.le_of_ble_eq_true rfl) rfl ?_
  refine ev_iload_n (j := 1) dX11_set_0 rfl rfl ?_
  refine ev_iconst dX11_set_1 ?_
  refine ev_callSV (As := [iv v1, iv 3]) (st := []) mfX11_requireIndex mlX11_65 dX11_set_2 rfl rfl (by decide) (by decide) (by decide) (Nat.le_of_ble_eq_true rfl) (fun _ _ z => z) h (fun M1 h2 => ?_)
  refine ev_iload_n (j := 2) dX11_set_5 rfl rfl ?_
  refine ev_sget (nm := "LEAST_VALUES") (l := [0, 1, 0]) (fun h => h.2.2.2.2.2.1) (mem_all 838 (tb4 31 (by decide +kernel) rfl) (by decide +kernel)) dX11_set_6 (fun t4 h5 => ?_)
  refine ev_iload_n (j := 1) dX11_set_9 rfl rfl ?_
  obtain ⟨s6, s7, h8⟩ := h2
  refine ev_sald h5 dX11_set_10 s6 s7 ?_
  refine ev_sget (nm := "GREATEST_VALUES") (l := [20, 30, 10]) (fun h => h.2.2.2.2.2.2.1) (mem_all 840 (tb4 33 (by decide +kernel) rfl) (by decide +kernel)) dX11_set_11 (fun t9 h10 => ?_)
  refine ev_iload_n (j := 1) dX11_set_14 rfl rfl ?_
  refine ev_sald h10 dX11_set_15 s6 s7 ?_
  refine ev_callSI (As := [iv v2, iv (([0, 1, 0] : List Int).getD (v1).toNat 0), iv (([20, 30, 10] : List Int).getD (v1).toNat 0)]) (st := []) mfX11_isFromTo mlX11_69 dX11_set_16 rfl rfl (by decide) (by decide) (by decide) (Nat.le_of_ble_eq_true rfl) (fun _ _ z => z.elim) h8 (fun x13 M11 h12 => ?_)
  obtain ⟨s14, h15⟩ := h12
  obtain ⟨h16, h17⟩ := h15
  refine ev_if_ne 32 dX11_set_19 (by decide) s14 (fun c18 => ?_) (fun c18 => ?_)
  · have h19 := h16 c18
    refine ev_aload_n (j := 0) dX11_set_32 rfl rfl ?_
    refine ev_get frX11_10 dX11_set_33 dm0_0 en0_0 rfl ?_
    refine ev_get frX11_80 dX11_set_36 (dom1 (by decide) (by decide) (by decide) (by decide)) en1_0 rfl ?_
    refine ev_get frX11_141 dX11_set_39 (dom1 (by decide) (by decide) (by decide) (by decide)) en1_1 rfl ?_
    refine ev_iload_n (j := 1) dX11_set_42 rfl rfl ?_
    refine ev_iald dX11_set_43 (dom1 (by decide) (by decide) (by decide) (by decide)) ar1_5 (by decide) s6 s7 ?_
    refine ev_istore_n dX11_set_44 rfl (by decide) rfl ?_
    refine ev_aload_n (j := 1) dX11_set_45 rfl rfl ?_
    refine ev_get frX11_16 dX11_set_46 dm0_0 en0_0 rfl ?_
    refine ev_aload_n (j := 1) dX11_set_49 rfl rfl ?_
    refine ev_get frX11_10 dX11_set_50 dm0_0 en0_0 rfl ?_
    refine ev_callVV (As := [rr G 1 0 0]) (st := []) mfX4_copyFrom mlX11_93 dX11_set_53 rfl (dom1 (by decide) (by decide) (by decide) (by decide)) en1_0 rfl rfl rfl (by decide) (by decide) (by decide) (Nat.le_of_ble_eq_true rfl) (fun _ _ z => z.elim) h19 (fun M20 h21 => ?_)
    refine ev_aload_n (j := 1) dX11_set_56 rfl rfl ?_
    refine ev_get frX11_16 dX11_set_57 dm0_0 en0_0 rfl ?_
    refine ev_get frX11_80 dX11_set_60 (dom1 (by decide) (by decide) (by decide) (by decide)) en1_0 rfl ?_
    refine ev_get frX11_141 dX11_set_63 (dom1 (by decide) (by decide) (by decide) (by decide)) en1_1 rfl ?_
    refine ev_iload_n (j := 2) dX11_set_66 rfl rfl ?_
    refine ev_iload_n (j := 3) dX11_set_67 rfl rfl ?_
    refine ev_iast dX11_set_68 (dom1 (by decide) (by decide) (by decide) (by decide)) ar1_5 (by decide) s6 s7 ?_
    refine ev_aload_n (j := 1) dX11_set_69 rfl rfl ?_
    refine ev_get frX11_16 dX11_set_70 dm0_0 en0_0 rfl ?_
    refine ev_callVI (As := []) (st := []) mfX4_areDutiesSound mlX11_97 dX11_set_73 rfl (dom1 (by decide) (by decide) (by decide) (by decide)) en1_0 rfl rfl rfl (by decide) (by decide) (by decide) (Nat.le_of_ble_eq_true rfl) (fun _ _ z => z.elim) h21 (fun x25 M23 h24 => ?_)
    obtain ⟨s26, h27⟩ := h24
    obtain ⟨h28, h29⟩ := h27
    refine ev_if_ne 89 dX11_set_76 (by decide) s26 (fun c30 => ?_) (fun c30 => ?_)
    · have h31 := h28 c30
      refine ev_aload_n (j := 1) dX11_set_89 rfl rfl ?_
      refine ev_callVV (As := []) (st := []) mfX11_adoptDraft mlX11_106 dX11_set_90 rfl dm0_0 en0_0 rfl rfl rfl (by decide) (by decide) (by decide) (Nat.le_of_ble_eq_true rfl) (fun _ _ z => z.elim) h31 (fun M32 h33 => ?_)
      refine ev_iload_n (j := 0) dX11_set_93 rfl rfl ?_
      exact ev_iret dX11_set_94 (by decide) rfl h33
    · have h35 := h29 c30
      exact thrX11_set_79 (by decide) h35
  · have h36 := h17 c18
    exact thrX11_set_22 (by decide) h36
def eX11_setSection (G : GT) (K : List Value → Mem → Prop) (X : String → Mem → Prop) (pc : Nat) (lv : List (Nat × Value)) (st : List Value) (M : Mem) : Prop := Ex G zX11_setSection 9 2 K X 0 pc lv st M
set_option maxRecDepth 20000 in
set_option maxHeartbeats 4000000 in
theorem bX11_setSection {G : GT} {K : List Value → Mem → Prop} {X : String → Mem → Prop} {M : Mem} {v1 v2 v3 : Int} (h : Call G 8 1 zX11_requireIndex [iv v1, iv 11] M (kV (fun M1 => Call G 0 0 zX11_isFromTo [iv v2, iv 1, iv 9] M1 (kI (fun x6 M4 => I32 x6 ∧ ((x6 = 0 → X "java/lang/IllegalArgumentException" M4) ∧ (¬ x6 = 0 → Call G 0 0 zX11_isFromTo [iv v3, iv 0, iv 30] M4 (kI (fun x16 M14 => I32 x16 ∧ ((¬ x16 = 0 → 0 ≤ v1 ∧ v1 < 11 ∧ Call G 2 0 zX4_copyFrom [rr G 1 1 0, rr G 1 0 0] M14 (kV (fun M26 => Call G 4 0 zX4_areDutiesSound [rr G 1 1 0] (wr (wr M26 1 1 2 v1 v2) 1 1 3 v1 v3) (kI (fun x31 M29 => I32 x31 ∧ ((¬ x31 = 0 → Call G 4 0 zX11_adoptDraft [rr G 0 0 0] M29 (kV (fun M38 => K [iv ((10 * (M14 1 0 2 v1)) + (M14 1 0 3 v1))] M38)) noX) ∧ (x31 = 0 → X "java/lang/IllegalStateException" M29)))) noX)) noX) ∧ (x16 = 0 → X "java/lang/IllegalArgumentException" M14)))) noX)))) noX)) X) : Call G 9 2 zX11_setSection [rr G 0 0 0, iv v1, iv v2, iv v3] M K X := by
  refine call_intro (lv := [(0, rr G 0 0 0), (1, iv v1), (2, iv v2), (3, iv v3)]) (by decide) rfl (Nat.le_of_ble_eq_true rfl) rfl ?_
  refine ev_iload_n (j := 1) dX11_setSection_0 rfl rfl ?_
  refine ev_bipush dX11_setSection_1 (by decide) ?_
  refine ev_callSV (As := [iv v1, iv 11]) (st := []) mfX11_requireIndex mlX11_65 dX11_setSection_3 rfl rfl (by decide) (by decide) (by decide) (Nat.le_of_ble_eq_true rfl) (fun _ _ z => z) h (fun M1 h2 => ?_)
  refine ev_iload_n (j := 2) dX11_setSection_6 rfl rfl ?_
  refine ev_iconst dX11_setSection_7 ?_
  refine ev_bipush dX11_setSection_8 (by decide) ?_
  refine ev_callSI (As := [iv v2, iv 1, iv 9]) (st := []) mfX11_isFromTo mlX11_69 dX11_setSection_10 rfl rfl (by decide) (by decide) (by decide) (Nat.le_of_ble_eq_true rfl) (fun _ _ z => z.elim) h2 (fun x6 M4 h5 => ?_)
  obtain ⟨s7, h8⟩ := h5
  obtain ⟨h9, h10⟩ := h8
  refine ev_if_eq 26 dX11_setSection_13 (by decide) s7 (fun c11 => ?_) (fun c11 => ?_)
  · have h12 := h9 c11
    exact thrX11_setSection_26 (by decide) h12
  · have h13 := h10 c11
    refine ev_iload_n (j := 3) dX11_setSection_16 rfl rfl ?_
    refine ev_iconst dX11_setSection_17 ?_
    refine ev_bipush dX11_setSection_18 (by decide) ?_
    refine ev_callSI (As := [iv v3, iv 0, iv 30]) (st := []) mfX11_isFromTo mlX11_69 dX11_setSection_20 rfl rfl (by decide) (by decide) (by decide) (Nat.le_of_ble_eq_true rfl) (fun _ _ z => z.elim) h13 (fun x16 M14 h15 => ?_)
    obtain ⟨s17, h18⟩ := h15
    obtain ⟨h19, h20⟩ := h18
    refine ev_if_ne 36 dX11_setSection_23 (by decide) s17 (fun c21 => ?_) (fun c21 => ?_)
    · have h22 := h19 c21
      refine ev_bipush dX11_setSection_36 (by decide) ?_
      refine ev_aload_n (j := 0) dX11_setSection_38 rfl rfl ?_
      refine ev_get frX11_10 dX11_setSection_39 dm0_0 en0_0 rfl ?_
      refine ev_get frX11_80 dX11_setSection_42 (dom1 (by decide) (by decide) (by decide) (by decide)) en1_0 rfl ?_
      refine ev_get frX11_84 dX11_setSection_45 (dom1 (by decide) (by decide) (by decide) (by decide)) en1_1 rfl ?_
      refine ev_iload_n (j := 1) dX11_setSection_48 rfl rfl ?_
      obtain ⟨s23, s24, h25⟩ := h22
      refine ev_iald dX11_setSection_49 (dom1 (by decide) (by decide) (by decide) (by decide)) ar1_2 (by decide) s23 s24 ?_
      refine ev_imul dX11_setSection_50 ?_
      refine ev_aload_n (j := 0) dX11_setSection_51 rfl rfl ?_
      refine ev_get frX11_10 dX11_setSection_52 dm0_0 en0_0 rfl ?_
      refine ev_get frX11_80 dX11_setSection_55 (dom1 (by decide) (by decide) (by decide) (by decide)) en1_0 rfl ?_
      refine ev_get frX11_90 dX11_setSection_58 (dom1 (by decide) (by decide) (by decide) (by decide)) en1_1 rfl ?_
      refine ev_iload_n (j := 1) dX11_setSection_61 rfl rfl ?_
      refine ev_iald dX11_setSection_62 (dom1 (by decide) (by decide) (by decide) (by decide)) ar1_3 (by decide) s23 s24 ?_
      refine ev_iadd dX11_setSection_63 ?_
      refine ev_istore dX11_setSection_64 (by decide) rfl ?_
      refine ev_aload_n (j := 1) dX11_setSection_66 rfl rfl ?_
      refine ev_get frX11_16 dX11_setSection_67 dm0_0 en0_0 rfl ?_
      refine ev_aload_n (j := 1) dX11_setSection_70 rfl rfl ?_
      refine ev_get frX11_10 dX11_setSection_71 dm0_0 en0_0 rfl ?_
      refine ev_callVV (As := [rr G 1 0 0]) (st := []) mfX4_copyFrom mlX11_93 dX11_setSection_74 rfl (dom1 (by decide) (by decide) (by decide) (by decide)) en1_0 rfl rfl rfl (by decide) (by decide) (by decide) (Nat.le_of_ble_eq_true rfl) (fun _ _ z => z.elim) h25 (fun M26 h27 => ?_)
      refine ev_aload_n (j := 1) dX11_setSection_77 rfl rfl ?_
      refine ev_get frX11_16 dX11_setSection_78 dm0_0 en0_0 rfl ?_
      refine ev_get frX11_80 dX11_setSection_81 (dom1 (by decide) (by decide) (by decide) (by decide)) en1_0 rfl ?_
      refine ev_get frX11_84 dX11_setSection_84 (dom1 (by decide) (by decide) (by decide) (by decide)) en1_1 rfl ?_
      refine ev_iload_n (j := 2) dX11_setSection_87 rfl rfl ?_
      refine ev_iload_n (j := 3) dX11_setSection_88 rfl rfl ?_
      refine ev_iast dX11_setSection_89 (dom1 (by decide) (by decide) (by decide) (by decide)) ar1_2 (by decide) s23 s24 ?_
      refine ev_aload_n (j := 1) dX11_setSection_90 rfl rfl ?_
      refine ev_get frX11_16 dX11_setSection_91 dm0_0 en0_0 rfl ?_
      refine ev_get frX11_80 dX11_setSection_94 (dom1 (by decide) (by decide) (by decide) (by decide)) en1_0 rfl ?_
      refine ev_get frX11_90 dX11_setSection_97 (dom1 (by decide) (by decide) (by decide) (by decide)) en1_1 rfl ?_
      refine ev_iload_n (j := 2) dX11_setSection_100 rfl rfl ?_
      refine ev_iload_n (j := 4) dX11_setSection_101 rfl rfl ?_
      refine ev_iast dX11_setSection_102 (dom1 (by decide) (by decide) (by decide) (by decide)) ar1_3 (by decide) s23 s24 ?_
      refine ev_aload_n (j := 1) dX11_setSection_103 rfl rfl ?_
      refine ev_get frX11_16 dX11_setSection_104 dm0_0 en0_0 rfl ?_
      refine ev_callVI (As := []) (st := []) mfX4_areDutiesSound mlX11_97 dX11_setSection_107 rfl (dom1 (by decide) (by decide) (by decide) (by decide)) en1_0 rfl rfl rfl (by decide) (by decide) (by decide) (Nat.le_of_ble_eq_true rfl) (fun _ _ z => z.elim) h27 (fun x31 M29 h30 => ?_)
      obtain ⟨s32, h33⟩ := h30
      obtain ⟨h34, h35⟩ := h33
      refine ev_if_ne 123 dX11_setSection_110 (by decide) s32 (fun c36 => ?_) (fun c36 => ?_)
      · have h37 := h34 c36
        refine ev_aload_n (j := 1) dX11_setSection_123 rfl rfl ?_
        refine ev_callVV (As := []) (st := []) mfX11_adoptDraft mlX11_106 dX11_setSection_124 rfl dm0_0 en0_0 rfl rfl rfl (by decide) (by decide) (by decide) (Nat.le_of_ble_eq_true rfl) (fun _ _ z => z.elim) h37 (fun M38 h39 => ?_)
        refine ev_iload (j := 0) dX11_setSection_127 rfl ?_
        exact ev_iret dX11_setSection_129 (by decide) rfl h39
      · have h41 := h35 c36
        exact thrX11_setSection_113 (by decide) h41
    · have h42 := h20 c21
      exact thrX11_setSection_26 (by decide) h42
def eX11_setTurn (G : GT) (K : List Value → Mem → Prop) (X : String → Mem → Prop) (pc : Nat) (lv : List (Nat × Value)) (st : List Value) (M : Mem) : Prop := Ex G zX11_setTurn 8 1 K X 0 pc lv st M
set_option maxRecDepth 20000 in
set_option maxHeartbeats 4000000 in
theorem bX11_setTurn {G : GT} {K : List Value → Mem → Prop} {X : String → Mem → Prop} {M : Mem} {v1 v2 : Int} (h : Call G 0 0 zX11_isFromTo [iv v1, iv 1, iv 10] M (kI (fun x3 M1 => I32 x3 ∧ ((¬ x3 = 0 → I32 v2 ∧ ((¬ v2 = 0 → 0 ≤ v1 ∧ v1 < 12 ∧ Call G 3 0 zX3_keep [rr G 2 0 0, rr G 1 0 0] M1 (kV (fun M19 => vp_nar .boolean (J v2) = J v2 ∧ (M1 1 0 4 v1 = 0 ∨ M1 1 0 4 v1 = 1) ∧ K [iv (M1 1 0 4 v1)] (wr M19 1 0 4 v1 v2))) noX) ∧ (v2 = 0 → Call G 0 0 zX8_isEndOfActive [rr G 1 0 6, iv v1] M1 (kI (fun x29 M27 => I32 x29 ∧ ((x29 = 0 → 0 ≤ v1 ∧ v1 < 12 ∧ Call G 3 0 zX3_keep [rr G 2 0 0, rr G 1 0 0] M27 (kV (fun M39 => vp_nar .boolean (J v2) = J v2 ∧ (M27 1 0 4 v1 = 0 ∨ M27 1 0 4 v1 = 1) ∧ K [iv (M27 1 0 4 v1)] (wr M39 1 0 4 v1 v2))) noX) ∧ (¬ x29 = 0 → X "java/lang/IllegalStateException" M27)))) noX))) ∧ (x3 = 0 → X "java/lang/IndexOutOfBoundsException" M1)))) noX) : Call G 8 1 zX11_setTurn [rr G 0 0 0, iv v1, iv v2] M K X := by
  refine call_intro (lv := [(0, rr G 0 0 0), (1, iv v1), (2, iv v2)]) (by decide) rfl (Nat.le_of_ble_eq_true rfl) rfl ?_
  refine ev_iload_n (j := 1) dX11_setTurn_0 rfl rfl ?_
  refine ev_iconst dX11_setTurn_1 ?_
  refine ev_bipush dX11_setTurn_2 (by decide) ?_
  refine ev_callSI (As := [iv v1, iv 1, iv 10]) (st := []) mfX11_isFromTo mlX11_69 dX11_setTurn_4 rfl rfl (by decide) (by decide) (by decide) (Nat.le_of_ble_eq_true rfl) (fun _ _ z => z.elim) h (fun x3 M1 h2 => ?_)
  obtain ⟨s4, h5⟩ := h2
  obtain ⟨h6, h7⟩ := h5
  refine ev_if_ne 20 dX11_setTurn_7 (by decide) s4 (fun c8 => ?_) (fun c8 => ?_)
  · have h9 := h6 c8
    refine ev_iload_n (j := 2) dX11_setTurn_20 rfl rfl ?_
    obtain ⟨s10, h11⟩ := h9
    obtain ⟨h12, h13⟩ := h11
    refine ev_if_ne 48 dX11_setTurn_21 (by decide) s10 (fun c14 => ?_) (fun c14 => ?_)
    · have h15 := h12 c14
      refine ev_aload_n (j := 0) dX11_setTurn_48 rfl rfl ?_
      refine ev_get frX11_10 dX11_setTurn_49 dm0_0 en0_0 rfl ?_
      refine ev_get frX11_80 dX11_setTurn_52 (dom1 (by decide) (by decide) (by decide) (by decide)) en1_0 rfl ?_
      refine ev_get frX11_126 dX11_setTurn_55 (dom1 (by decide) (by decide) (by decide) (by decide)) en1_1 rfl ?_
      refine ev_iload_n (j := 1) dX11_setTurn_58 rfl rfl ?_
      obtain ⟨s16, s17, h18⟩ := h15
      refine ev_zald dX11_setTurn_59 (dom1 (by decide) (by decide) (by decide) (by decide)) ar1_4 (by decide) s16 s17 ?_
      refine ev_istore_n dX11_setTurn_60 rfl (by decide) rfl ?_
      refine ev_aload_n (j := 1) dX11_setTurn_61 rfl rfl ?_
      refine ev_get frX11_22 dX11_setTurn_62 dm0_0 en0_0 rfl ?_
      refine ev_aload_n (j := 1) dX11_setTurn_65 rfl rfl ?_
      refine ev_get frX11_10 dX11_setTurn_66 dm0_0 en0_0 rfl ?_
      refine ev_callVV (As := [rr G 1 0 0]) (st := []) mfX3_keep mlX11_130 dX11_setTurn_69 rfl dm2_0 en2_0 rfl rfl rfl (by decide) (by decide) (by decide) (Nat.le_of_ble_eq_true rfl) (fun _ _ z => z.elim) h18 (fun M19 h20 => ?_)
      refine ev_aload_n (j := 1) dX11_setTurn_72 rfl rfl ?_
      refine ev_get frX11_10 dX11_setTurn_73 dm0_0 en0_0 rfl ?_
      refine ev_get frX11_80 dX11_setTurn_76 (dom1 (by decide) (by decide) (by decide) (by decide)) en1_0 rfl ?_
      refine ev_get frX11_126 dX11_setTurn_79 (dom1 (by decide) (by decide) (by decide) (by decide)) en1_1 rfl ?_
      refine ev_iload_n (j := 2) dX11_setTurn_82 rfl rfl ?_
      refine ev_iload_n (j := 3) dX11_setTurn_83 rfl rfl ?_
      obtain ⟨s22, h23⟩ := h20
      refine ev_zast dX11_setTurn_84 (dom1 (by decide) (by decide) (by decide) (by decide)) ar1_4 (by decide) s16 s17 s22 ?_
      refine ev_iload_n (j := 0) dX11_setTurn_85 rfl rfl ?_
      obtain ⟨s24, h25⟩ := h23
      exact ev_zret dX11_setTurn_86 (by decide) rfl s24 h25
    · have h26 := h13 c14
      refine ev_aload_n (j := 0) dX11_setTurn_24 rfl rfl ?_
      refine ev_get frX11_10 dX11_setTurn_25 dm0_0 en0_0 rfl ?_
      refine ev_get frX11_114 dX11_setTurn_28 (dom1 (by decide) (by decide) (by decide) (by decide)) en1_0 rfl ?_
      refine ev_iload_n (j := 1) dX11_setTurn_31 rfl rfl ?_
      refine ev_callVI (As := [iv v1]) (st := []) mfX8_isEndOfActive mlX11_118 dX11_setTurn_32 rfl (dom1 (by decide) (by decide) (by decide) (by decide)) en1_6 rfl rfl rfl (by decide) (by decide) (by decide) (Nat.le_of_ble_eq_true rfl) (fun _ _ z => z.elim) h26 (fun x29 M27 h28 => ?_)
      obtain ⟨s30, h31⟩ := h28
      obtain ⟨h32, h33⟩ := h31
      refine ev_if_eq 48 dX11_setTurn_35 (by decide) s30 (fun c34 => ?_) (fun c34 => ?_)
      · have h35 := h32 c34
        refine ev_aload_n (j := 0) dX11_setTurn_48 rfl rfl ?_
        refine ev_get frX11_10 dX11_setTurn_49 dm0_0 en0_0 rfl ?_
        refine ev_get frX11_80 dX11_setTurn_52 (dom1 (by decide) (by decide) (by decide) (by decide)) en1_0 rfl ?_
        refine ev_get frX11_126 dX11_setTurn_55 (dom1 (by decide) (by decide) (by decide) (by decide)) en1_1 rfl ?_
        refine ev_iload_n (j := 1) dX11_setTurn_58 rfl rfl ?_
        obtain ⟨s36, s37, h38⟩ := h35
        refine ev_zald dX11_setTurn_59 (dom1 (by decide) (by decide) (by decide) (by decide)) ar1_4 (by decide) s36 s37 ?_
        refine ev_istore_n dX11_setTurn_60 rfl (by decide) rfl ?_
        refine ev_aload_n (j := 1) dX11_setTurn_61 rfl rfl ?_
        refine ev_get frX11_22 dX11_setTurn_62 dm0_0 en0_0 rfl ?_
        refine ev_aload_n (j := 1) dX11_setTurn_65 rfl rfl ?_
        refine ev_get frX11_10 dX11_setTurn_66 dm0_0 en0_0 rfl ?_
        refine ev_callVV (As := [rr G 1 0 0]) (st := []) mfX3_keep mlX11_130 dX11_setTurn_69 rfl dm2_0 en2_0 rfl rfl rfl (by decide) (by decide) (by decide) (Nat.le_of_ble_eq_true rfl) (fun _ _ z => z.elim) h38 (fun M39 h40 => ?_)
        refine ev_aload_n (j := 1) dX11_setTurn_72 rfl rfl ?_
        refine ev_get frX11_10 dX11_setTurn_73 dm0_0 en0_0 rfl ?_
        refine ev_get frX11_80 dX11_setTurn_76 (dom1 (by decide) (by decide) (by decide) (by decide)) en1_0 rfl ?_
        refine ev_get frX11_126 dX11_setTurn_79 (dom1 (by decide) (by decide) (by decide) (by decide)) en1_1 rfl ?_
        refine ev_iload_n (j := 2) dX11_setTurn_82 rfl rfl ?_
        refine ev_iload_n (j := 3) dX11_setTurn_83 rfl rfl ?_
        obtain ⟨s42, h43⟩ := h40
        refine ev_zast dX11_setTurn_84 (dom1 (by decide) (by decide) (by decide) (by decide)) ar1_4 (by decide) s36 s37 s42 ?_
        refine ev_iload_n (j := 0) dX11_setTurn_85 rfl rfl ?_
        obtain ⟨s44, h45⟩ := h43
        exact ev_zret dX11_setTurn_86 (by decide) rfl s44 h45
      · have h46 := h33 c34
        exact thrX11_setTurn_38 (by decide) h46
  · have h47 := h7 c8
    exact thrX11_setTurn_10 (by decide) h47
def eX11_startLate (G : GT) (K : List Value → Mem → Prop) (X : String → Mem → Prop) (pc : Nat) (lv : List (Nat × Value)) (st : List Value) (M : Mem) : Prop := Ex G zX11_startLate 9 2 K X 0 pc lv st M
set_option maxRecDepth 20000 in
set_option maxHeartbeats 4000000 in
theorem bX11_startLate {G : GT} {K : List Value → Mem → Prop} {X : String → Mem → Prop} {M : Mem} {v1 v2 : Int} (h : Call G 8 1 zX11_requireIndex [iv v1, iv (M 1 0 6 4)] M (kV (fun M1 => Call G 2 0 zX8_isBetweenEnds [rr G 1 0 6, iv v1, iv v2] M1 (kI (fun x6 M4 => I32 x6 ∧ ((x6 = 0 → X "java/lang/IllegalArgumentException" M4) ∧ (¬ x6 = 0 → 0 ≤ v2 ∧ v2 < 12 ∧ I32 (M4 1 0 4 v2) ∧ ((¬ (M4 1 0 4 v2) = 0 → Call G 1 0 zX4_timeAt [rr G 1 0 0, iv v1, iv v2] M4 (kI (fun x25 M23 => I32 x25 ∧ ((¬ 1439 < x25 → 0 ≤ v1 ∧ v1 < 30 ∧ Call G 3 0 zX3_keep [rr G 2 0 0, rr G 1 0 0] M23 (kV (fun M35 => Call G 2 0 zX2_takeOutFrom [rr G 1 0 11, iv v1] (wr (wr M35 1 0 7 v1 v2) 1 0 9 v1 x25) (kV (fun M38 => K [iv (x25 - (M23 1 0 9 v1))] M38)) noX)) noX) ∧ (1439 < x25 → X "java/lang/IllegalArgumentException" M23)))) noX) ∧ ((M4 1 0 4 v2) = 0 → X "java/lang/IllegalArgumentException" M4)))))) noX)) X) : Call G 9 2 zX11_startLate [rr G 0 0 0, iv v1, iv v2] M K X := by
  refine call_intro (lv := [(0, rr G 0 0 0), (1, iv v1), (2, iv v2)]) (by decide) rfl (Nat.le_of_ble_eq_true rfl) rfl ?_
  refine ev_iload_n (j := 1) dX11_startLate_0 rfl rfl ?_
  refine ev_aload_n (j := 0) dX11_startLate_1 rfl rfl ?_
  refine ev_get frX11_10 dX11_startLate_2 dm0_0 en0_0 rfl ?_
  refine ev_get frX11_114 dX11_startLate_5 (dom1 (by decide) (by decide) (by decide) (by decide)) en1_0 rfl ?_
  refine ev_get frX11_149 dX11_startLate_8 (dom1 (by decide) (by decide) (by decide) (by decide)) en1_6 rfl ?_
  refine ev_callSV (As := [iv v1, iv (M 1 0 6 4)]) (st := []) mfX11_requireIndex mlX11_65 dX11_startLate_11 rfl rfl (by decide) (by decide) (by decide) (Nat.le_of_ble_eq_true rfl) (fun _ _ z => z) h (fun M1 h2 => ?_)
  refine ev_aload_n (j := 0) dX11_startLate_14 rfl rfl ?_
  refine ev_get frX11_10 dX11_startLate_15 dm0_0 en0_0 rfl ?_
  refine ev_get frX11_114 dX11_startLate_18 (dom1 (by decide) (by decide) (by decide) (by decide)) en1_0 rfl ?_
  refine ev_iload_n (j := 1) dX11_startLate_21 rfl rfl ?_
  refine ev_iload_n (j := 2) dX11_startLate_22 rfl rfl ?_
  refine ev_callVI (As := [iv v1, iv v2]) (st := []) mfX8_isBetweenEnds mlX11_392 dX11_startLate_23 rfl (dom1 (by decide) (by decide) (by decide) (by decide)) en1_6 rfl rfl rfl (by decide) (by decide) (by decide) (Nat.le_of_ble_eq_true rfl) (fun _ _ z => z.elim) h2 (fun x6 M4 h5 => ?_)
  obtain ⟨s7, h8⟩ := h5
  obtain ⟨h9, h10⟩ := h8
  refine ev_if_eq 44 dX11_startLate_26 (by decide) s7 (fun c11 => ?_) (fun c11 => ?_)
  · have h12 := h9 c11
    exact thrX11_startLate_44 (by decide) h12
  · have h13 := h10 c11
    refine ev_aload_n (j := 0) dX11_startLate_29 rfl rfl ?_
    refine ev_get frX11_10 dX11_startLate_30 dm0_0 en0_0 rfl ?_
    refine ev_get frX11_80 dX11_startLate_33 (dom1 (by decide) (by decide) (by decide) (by decide)) en1_0 rfl ?_
    refine ev_get frX11_126 dX11_startLate_36 (dom1 (by decide) (by decide) (by decide) (by decide)) en1_1 rfl ?_
    refine ev_iload_n (j := 2) dX11_startLate_39 rfl rfl ?_
    obtain ⟨s14, s15, h16⟩ := h13
    refine ev_zald dX11_startLate_40 (dom1 (by decide) (by decide) (by decide) (by decide)) ar1_4 (by decide) s14 s15 ?_
    obtain ⟨s17, h18⟩ := h16
    obtain ⟨h19, h20⟩ := h18
    refine ev_if_ne 55 dX11_startLate_41 (by decide) s17 (fun c21 => ?_) (fun c21 => ?_)
    · have h22 := h19 c21
      refine ev_aload_n (j := 0) dX11_startLate_55 rfl rfl ?_
      refine ev_get frX11_10 dX11_startLate_56 dm0_0 en0_0 rfl ?_
      refine ev_iload_n (j := 1) dX11_startLate_59 rfl rfl ?_
      refine ev_iload_n (j := 2) dX11_startLate_60 rfl rfl ?_
      refine ev_callVI (As := [iv v1, iv v2]) (st := []) mfX4_timeAt mlX11_206 dX11_startLate_61 rfl (dom1 (by decide) (by decide) (by decide) (by decide)) en1_0 rfl rfl rfl (by decide) (by decide) (by decide) (Nat.le_of_ble_eq_true rfl) (fun _ _ z => z.elim) h22 (fun x25 M23 h24 => ?_)
      refine ev_istore_n dX11_startLate_64 rfl (by decide) rfl ?_
      refine ev_iload_n (j := 0) dX11_startLate_65 rfl rfl ?_
      refine ev_sipush dX11_startLate_66 (by decide) ?_
      obtain ⟨s26, h27⟩ := h24
      obtain ⟨h28, h29⟩ := h27
      refine ev_icmp_le 83 dX11_startLate_69 (by decide) s26 ⟨by decide, by decide⟩ (fun c30 => ?_) (fun c30 => ?_)
      · have h31 := h28 c30
        refine ev_iload_n (j := 0) dX11_startLate_83 rfl rfl ?_
        refine ev_aload_n (j := 1) dX11_startLate_84 rfl rfl ?_
        refine ev_get frX11_10 dX11_startLate_85 dm0_0 en0_0 rfl ?_
        refine ev_get frX11_114 dX11_startLate_88 (dom1 (by decide) (by decide) (by decide) (by decide)) en1_0 rfl ?_
        refine ev_get frX11_182 dX11_startLate_91 (dom1 (by decide) (by decide) (by decide) (by decide)) en1_6 rfl ?_
        refine ev_iload_n (j := 2) dX11_startLate_94 rfl rfl ?_
        obtain ⟨s32, s33, h34⟩ := h31
        refine ev_iald dX11_startLate_95 (dom1 (by decide) (by decide) (by decide) (by decide)) ar1_9 (by decide) s32 s33 ?_
        refine ev_isub dX11_startLate_96 ?_
        refine ev_istore dX11_startLate_97 (by decide) rfl ?_
        refine ev_aload_n (j := 2) dX11_startLate_99 rfl rfl ?_
        refine ev_get frX11_22 dX11_startLate_100 dm0_0 en0_0 rfl ?_
        refine ev_aload_n (j := 2) dX11_startLate_103 rfl rfl ?_
        refine ev_get frX11_10 dX11_startLate_104 dm0_0 en0_0 rfl ?_
        refine ev_callVV (As := [rr G 1 0 0]) (st := []) mfX3_keep mlX11_130 dX11_startLate_107 rfl dm2_0 en2_0 rfl rfl rfl (by decide) (by decide) (by decide) (Nat.le_of_ble_eq_true rfl) (fun _ _ z => z.elim) h34 (fun M35 h36 => ?_)
        refine ev_aload_n (j := 2) dX11_startLate_110 rfl rfl ?_
        refine ev_get frX11_10 dX11_startLate_111 dm0_0 en0_0 rfl ?_
        refine ev_get frX11_114 dX11_startLate_114 (dom1 (by decide) (by decide) (by decide) (by decide)) en1_0 rfl ?_
        refine ev_get frX11_176 dX11_startLate_117 (dom1 (by decide) (by decide) (by decide) (by decide)) en1_6 rfl ?_
        refine ev_iload_n (j := 3) dX11_startLate_120 rfl rfl ?_
        refine ev_iload_n (j := 4) dX11_startLate_121 rfl rfl ?_
        refine ev_iast dX11_startLate_122 (dom1 (by decide) (by decide) (by decide) (by decide)) ar1_7 (by decide) s32 s33 ?_
        refine ev_aload_n (j := 2) dX11_startLate_123 rfl rfl ?_
        refine ev_get frX11_10 dX11_startLate_124 dm0_0 en0_0 rfl ?_
        refine ev_get frX11_114 dX11_startLate_127 (dom1 (by decide) (by decide) (by decide) (by decide)) en1_0 rfl ?_
        refine ev_get frX11_182 dX11_startLate_130 (dom1 (by decide) (by decide) (by decide) (by decide)) en1_6 rfl ?_
        refine ev_iload_n (j := 3) dX11_startLate_133 rfl rfl ?_
        refine ev_iload_n (j := 1) dX11_startLate_134 rfl rfl ?_
        refine ev_iast dX11_startLate_135 (dom1 (by decide) (by decide) (by decide) (by decide)) ar1_9 (by decide) s32 s33 ?_
        refine ev_aload_n (j := 2) dX11_startLate_136 rfl rfl ?_
        refine ev_get frX11_10 dX11_startLate_137 dm0_0 en0_0 rfl ?_
        refine ev_get frX11_166 dX11_startLate_140 (dom1 (by decide) (by decide) (by decide) (by decide)) en1_0 rfl ?_
        refine ev_iload_n (j := 3) dX11_startLate_143 rfl rfl ?_
        refine ev_callVV (As := [iv v1]) (st := []) mfX2_takeOutFrom mlX11_170 dX11_startLate_144 rfl (dom1 (by decide) (by decide) (by decide) (by decide)) en1_11 rfl rfl rfl (by decide) (by decide) (by decide) (Nat.le_of_ble_eq_true rfl) (fun _ _ z => z.elim) h36 (fun M38 h39 => ?_)
        refine ev_iload (j := 0) dX11_startLate_147 rfl ?_
        exact ev_iret dX11_startLate_149 (by decide) rfl h39
      · have h41 := h29 c30
        exact thrX11_startLate_72 (by decide) h41
    · have h42 := h20 c21
      exact thrX11_startLate_44 (by decide) h42
def eX11_trip (G : GT) (K : List Value → Mem → Prop) (X : String → Mem → Prop) (pc : Nat) (lv : List (Nat × Value)) (st : List Value) (M : Mem) : Prop := Ex G zX11_trip 9 2 K X 0 pc lv st M
set_option maxRecDepth 20000 in
set_option maxHeartbeats 4000000 in
theorem bX11_trip {G : GT} {K : List Value → Mem → Prop} {X : String → Mem → Prop} {M : Mem} {v1 v2 : Int} (h : Call G 8 1 zX11_requireIndex [iv v1, iv (M 1 0 6 4)] M (kV (fun M1 => I32 v2 ∧ ((v2 = 0 → 0 ≤ v1 ∧ v1 < 30 ∧ K [iv (M1 1 0 7 v1)] M1) ∧ (v2 = 1 → 0 ≤ v1 ∧ v1 < 30 ∧ K [iv (M1 1 0 8 v1)] M1) ∧ (v2 = 2 → 0 ≤ v1 ∧ v1 < 30 ∧ K [iv (M1 1 0 9 v1)] M1) ∧ (v2 = 3 → Call G 1 0 zX4_arrivalOf [rr G 1 0 0, iv v1] M1 (kI (fun x29 M27 => K [iv x29] M27)) noX) ∧ (v2 = 4 → Call G 0 0 zX8_directionOf [rr G 1 0 6, iv v1] M1 (kI (fun x33 M31 => K [iv x33] M31)) noX) ∧ (v2 = 5 → 0 ≤ v1 ∧ v1 < 30 ∧ I32 (M1 1 0 10 v1) ∧ (((M1 1 0 10 v1) = 0 → K [iv 0] M1) ∧ (¬ (M1 1 0 10 v1) = 0 → K [iv 1] M1))) ∧ (v2 = 6 → Call G 1 0 zX2_vehicleOf [rr G 1 0 11, iv v1] M1 (kI (fun x48 M46 => K [iv x48] M46)) noX) ∧ ((v2 < 0 ∨ 6 < v2) → X "java/lang/IllegalArgumentException" M1)))) X) : Call G 9 2 zX11_trip [rr G 0 0 0, iv v1, iv v2] M K X := by
  refine call_intro (lv := [(0, rr G 0 0 0), (1, iv v1), (2, iv v2)]) (by decide) rfl (Nat.le_of_ble_eq_true rfl) rfl ?_
  refine ev_iload_n (j := 1) dX11_trip_0 rfl rfl ?_
  refine ev_aload_n (j := 0) dX11_trip_1 rfl rfl ?_
  refine ev_get frX11_10 dX11_trip_2 dm0_0 en0_0 rfl ?_
  refine ev_get frX11_114 dX11_trip_5 (dom1 (by decide) (by decide) (by decide) (by decide)) en1_0 rfl ?_
  refine ev_get frX11_149 dX11_trip_8 (dom1 (by decide) (by decide) (by decide) (by decide)) en1_6 rfl ?_
  refine ev_callSV (As := [iv v1, iv (M 1 0 6 4)]) (st := []) mfX11_requireIndex mlX11_65 dX11_trip_11 rfl rfl (by decide) (by decide) (by decide) (Nat.le_of_ble_eq_true rfl) (fun _ _ z => z) h (fun M1 h2 => ?_)
  refine ev_iload_n (j := 2) dX11_trip_14 rfl rfl ?_
  obtain ⟨s4, h5⟩ := h2
  obtain ⟨h6, h7, h8, h9, h10, h11, h12, h13⟩ := h5
  refine ev_tsw dX11_trip_15 s4 (by decide) (fun j9 o9 hj9 ha9 t9 ht9 _ => ?_) (fun j9 o9 hj9 => ?_) (fun c9 t9 ht9 => ?_) (by decide)
  · have hb9 : j9 < 7 := (Array.getElem?_eq_some_iff.mp hj9).1
    rcases (show j9 = 0 ∨ j9 = 1 ∨ j9 = 2 ∨ j9 = 3 ∨ j9 = 4 ∨ j9 = 5 ∨ j9 = 6 by omega) with rfl | rfl | rfl | rfl | rfl | rfl | rfl
    · obtain rfl : o9 = (41 : Int) := (Option.some.inj (show some (41 : Int) = some o9 from hj9)).symm
      obtain rfl : t9 = 56 := by omega
      have h14 := h6 (by omega)
      refine ev_aload_n (j := 0) dX11_trip_56 rfl rfl ?_
      refine ev_get frX11_10 dX11_trip_57 dm0_0 en0_0 rfl ?_
      refine ev_get frX11_114 dX11_trip_60 (dom1 (by decide) (by decide) (by decide) (by decide)) en1_0 rfl ?_
      refine ev_get frX11_176 dX11_trip_63 (dom1 (by decide) (by decide) (by decide) (by decide)) en1_6 rfl ?_
      refine ev_iload_n (j := 1) dX11_trip_66 rfl rfl ?_
      obtain ⟨s15, s16, h17⟩ := h14
      refine ev_iald dX11_trip_67 (dom1 (by decide) (by decide) (by decide) (by decide)) ar1_7 (by decide) s15 s16 ?_
      exact ev_iret dX11_trip_68 (by decide) rfl h17
    · obtain rfl : o9 = (54 : Int) := (Option.some.inj (show some (54 : Int) = some o9 from hj9)).symm
      obtain rfl : t9 = 69 := by omega
      have h18 := h7 (by omega)
      refine ev_aload_n (j := 0) dX11_trip_69 rfl rfl ?_
      refine ev_get frX11_10 dX11_trip_70 dm0_0 en0_0 rfl ?_
      refine ev_get frX11_114 dX11_trip_73 (dom1 (by decide) (by decide) (by decide) (by decide)) en1_0 rfl ?_
      refine ev_get frX11_179 dX11_trip_76 (dom1 (by decide) (by decide) (by decide) (by decide)) en1_6 rfl ?_
      refine ev_iload_n (j := 1) dX11_trip_79 rfl rfl ?_
      obtain ⟨s19, s20, h21⟩ := h18
      refine ev_iald dX11_trip_80 (dom1 (by decide) (by decide) (by decide) (by decide)) ar1_8 (by decide) s19 s20 ?_
      exact ev_iret dX11_trip_81 (by decide) rfl h21
    · obtain rfl : o9 = (67 : Int) := (Option.some.inj (show some (67 : Int) = some o9 from hj9)).symm
      obtain rfl : t9 = 82 := by omega
      have h22 := h8 (by omega)
      refine ev_aload_n (j := 0) dX11_trip_82 rfl rfl ?_
      refine ev_get frX11_10 dX11_trip_83 dm0_0 en0_0 rfl ?_
      refine ev_get frX11_114 dX11_trip_86 (dom1 (by decide) (by decide) (by decide) (by decide)) en1_0 rfl ?_
      refine ev_get frX11_182 dX11_trip_89 (dom1 (by decide) (by decide) (by decide) (by decide)) en1_6 rfl ?_
      refine ev_iload_n (j := 1) dX11_trip_92 rfl rfl ?_
      obtain ⟨s23, s24, h25⟩ := h22
      refine ev_iald dX11_trip_93 (dom1 (by decide) (by decide) (by decide) (by decide)) ar1_9 (by decide) s23 s24 ?_
      exact ev_iret dX11_trip_94 (by decide) rfl h25
    · obtain rfl : o9 = (80 : Int) := (Option.some.inj (show some (80 : Int) = some o9 from hj9)).symm
      obtain rfl : t9 = 95 := by omega
      have h26 := h9 (by omega)
      refine ev_aload_n (j := 0) dX11_trip_95 rfl rfl ?_
      refine ev_get frX11_10 dX11_trip_96 dm0_0 en0_0 rfl ?_
      refine ev_iload_n (j := 1) dX11_trip_99 rfl rfl ?_
      refine ev_callVI (As := [iv v1]) (st := []) mfX4_arrivalOf mlX11_185 dX11_trip_100 rfl (dom1 (by decide) (by decide) (by decide) (by decide)) en1_0 rfl rfl rfl (by decide) (by decide) (by decide) (Nat.le_of_ble_eq_true rfl) (fun _ _ z => z.elim) h26 (fun x29 M27 h28 => ?_)
      exact ev_iret dX11_trip_103 (by decide) rfl h28
    · obtain rfl : o9 = (89 : Int) := (Option.some.inj (show some (89 : Int) = some o9 from hj9)).symm
      obtain rfl : t9 = 104 := by omega
      have h30 := h10 (by omega)
      refine ev_aload_n (j := 0) dX11_trip_104 rfl rfl ?_
      refine ev_get frX11_10 dX11_trip_105 dm0_0 en0_0 rfl ?_
      refine ev_get frX11_114 dX11_trip_108 (dom1 (by decide) (by decide) (by decide) (by decide)) en1_0 rfl ?_
      refine ev_iload_n (j := 1) dX11_trip_111 rfl rfl ?_
      refine ev_callVI (As := [iv v1]) (st := []) mfX8_directionOf mlX11_189 dX11_trip_112 rfl (dom1 (by decide) (by decide) (by decide) (by decide)) en1_6 rfl rfl rfl (by decide) (by decide) (by decide) (Nat.le_of_ble_eq_true rfl) (fun _ _ z => z.elim) h30 (fun x33 M31 h32 => ?_)
      exact ev_iret dX11_trip_115 (by decide) rfl h32
    · obtain rfl : o9 = (101 : Int) := (Option.some.inj (show some (101 : Int) = some o9 from hj9)).symm
      obtain rfl : t9 = 116 := by omega
      have h34 := h11 (by omega)
      refine ev_aload_n (j := 0) dX11_trip_116 rfl rfl ?_
      refine ev_get frX11_10 dX11_trip_117 dm0_0 en0_0 rfl ?_
      refine ev_get frX11_114 dX11_trip_120 (dom1 (by decide) (by decide) (by decide) (by decide)) en1_0 rfl ?_
      refine ev_get frX11_163 dX11_trip_123 (dom1 (by decide) (by decide) (by decide) (by decide)) en1_6 rfl ?_
      refine ev_iload_n (j := 1) dX11_trip_126 rfl rfl ?_
      obtain ⟨s35, s36, h37⟩ := h34
      refine ev_zald dX11_trip_127 (dom1 (by decide) (by decide) (by decide) (by decide)) ar1_10 (by decide) s35 s36 ?_
      obtain ⟨s38, h39⟩ := h37
      obtain ⟨h40, h41⟩ := h39
      refine ev_if_eq 135 dX11_trip_128 (by decide) s38 (fun c42 => ?_) (fun c42 => ?_)
      · have h43 := h40 c42
        refine ev_iconst dX11_trip_135 ?_
        exact ev_iret dX11_trip_136 (by decide) rfl h43
      · have h44 := h41 c42
        refine ev_iconst dX11_trip_131 ?_
        refine ev_goto 136 dX11_trip_132 (by decide) ?_
        exact ev_iret dX11_trip_136 (by decide) rfl h44
    · obtain rfl : o9 = (122 : Int) := (Option.some.inj (show some (122 : Int) = some o9 from hj9)).symm
      obtain rfl : t9 = 137 := by omega
      have h45 := h12 (by omega)
      refine ev_aload_n (j := 0) dX11_trip_137 rfl rfl ?_
      refine ev_get frX11_10 dX11_trip_138 dm0_0 en0_0 rfl ?_
      refine ev_get frX11_166 dX11_trip_141 (dom1 (by decide) (by decide) (by decide) (by decide)) en1_0 rfl ?_
      refine ev_iload_n (j := 1) dX11_trip_144 rfl rfl ?_
      refine ev_callVI (As := [iv v1]) (st := []) mfX2_vehicleOf mlX11_192 dX11_trip_145 rfl (dom1 (by decide) (by decide) (by decide) (by decide)) en1_11 rfl rfl rfl (by decide) (by decide) (by decide) (Nat.le_of_ble_eq_true rfl) (fun _ _ z => z.elim) h45 (fun x48 M46 h47 => ?_)
      exact ev_iret dX11_trip_148 (by decide) rfl h47
  · have hb9 : j9 < 7 := (Array.getElem?_eq_some_iff.mp hj9).1
    rcases (show j9 = 0 ∨ j9 = 1 ∨ j9 = 2 ∨ j9 = 3 ∨ j9 = 4 ∨ j9 = 5 ∨ j9 = 6 by omega) with rfl | rfl | rfl | rfl | rfl | rfl | rfl <;> (have hj8 := Option.some.inj hj9; revert hj8; intro hj8; subst hj8; decide)
  · obtain rfl : t9 = 149 := by omega
    have h49 := h13 c9
    exact thrX11_trip_149 (by decide) h49
def eX11_turnShort (G : GT) (K : List Value → Mem → Prop) (X : String → Mem → Prop) (pc : Nat) (lv : List (Nat × Value)) (st : List Value) (M : Mem) : Prop := Ex G zX11_turnShort 9 2 K X 0 pc lv st M
set_option maxRecDepth 20000 in
set_option maxHeartbeats 4000000 in
theorem bX11_turnShort {G : GT} {K : List Value → Mem → Prop} {X : String → Mem → Prop} {M : Mem} {v1 v2 : Int} (h : Call G 8 1 zX11_requireIndex [iv v1, iv (M 1 0 6 4)] M (kV (fun M1 => Call G 2 0 zX8_isBetweenEnds [rr G 1 0 6, iv v1, iv v2] M1 (kI (fun x6 M4 => I32 x6 ∧ ((x6 = 0 → X "java/lang/IllegalArgumentException" M4) ∧ (¬ x6 = 0 → 0 ≤ v2 ∧ v2 < 12 ∧ I32 (M4 1 0 4 v2) ∧ ((¬ (M4 1 0 4 v2) = 0 → Call G 1 0 zX4_arrivalOf [rr G 1 0 0, iv v1] M4 (kI (fun x25 M23 => Call G 1 0 zX4_timeAt [rr G 1 0 0, iv v1, iv v2] M23 (kI (fun x28 M26 => Call G 3 0 zX3_keep [rr G 2 0 0, rr G 1 0 0] M26 (kV (fun M29 => 0 ≤ v1 ∧ v1 < 30 ∧ Call G 2 0 zX2_takeOutBehind [rr G 1 0 11, iv v1] (wr M29 1 0 8 v1 v2) (kV (fun M35 => K [iv (x25 - x28)] M35)) noX)) noX)) noX)) noX) ∧ ((M4 1 0 4 v2) = 0 → X "java/lang/IllegalArgumentException" M4)))))) noX)) X) : Call G 9 2 zX11_turnShort [rr G 0 0 0, iv v1, iv v2] M K X := by
  refine call_intro (lv := [(0, rr G 0 0 0), (1, iv v1), (2, iv v2)]) (by decide) rfl (Nat.le_of_ble_eq_true rfl) rfl ?_
  refine ev_iload_n (j := 1) dX11_turnShort_0 rfl rfl ?_
  refine ev_aload_n (j := 0) dX11_turnShort_1 rfl rfl ?_
  refine ev_get frX11_10 dX11_turnShort_2 dm0_0 en0_0 rfl ?_
  refine ev_get frX11_114 dX11_turnShort_5 (dom1 (by decide) (by decide) (by decide) (by decide)) en1_0 rfl ?_
  refine ev_get frX11_149 dX11_turnShort_8 (dom1 (by decide) (by decide) (by decide) (by decide)) en1_6 rfl ?_
  refine ev_callSV (As := [iv v1, iv (M 1 0 6 4)]) (st := []) mfX11_requireIndex mlX11_65 dX11_turnShort_11 rfl rfl (by decide) (by decide) (by decide) (Nat.le_of_ble_eq_true rfl) (fun _ _ z => z) h (fun M1 h2 => ?_)
  refine ev_aload_n (j := 0) dX11_turnShort_14 rfl rfl ?_
  refine ev_get frX11_10 dX11_turnShort_15 dm0_0 en0_0 rfl ?_
  refine ev_get frX11_114 dX11_turnShort_18 (dom1 (by decide) (by decide) (by decide) (by decide)) en1_0 rfl ?_
  refine ev_iload_n (j := 1) dX11_turnShort_21 rfl rfl ?_
  refine ev_iload_n (j := 2) dX11_turnShort_22 rfl rfl ?_
  refine ev_callVI (As := [iv v1, iv v2]) (st := []) mfX8_isBetweenEnds mlX11_392 dX11_turnShort_23 rfl (dom1 (by decide) (by decide) (by decide) (by decide)) en1_6 rfl rfl rfl (by decide) (by decide) (by decide) (Nat.le_of_ble_eq_true rfl) (fun _ _ z => z.elim) h2 (fun x6 M4 h5 => ?_)
  obtain ⟨s7, h8⟩ := h5
  obtain ⟨h9, h10⟩ := h8
  refine ev_if_eq 44 dX11_turnShort_26 (by decide) s7 (fun c11 => ?_) (fun c11 => ?_)
  · have h12 := h9 c11
    exact thrX11_turnShort_44 (by decide) h12
  · have h13 := h10 c11
    refine ev_aload_n (j := 0) dX11_turnShort_29 rfl rfl ?_
    refine ev_get frX11_10 dX11_turnShort_30 dm0_0 en0_0 rfl ?_
    refine ev_get frX11_80 dX11_turnShort_33 (dom1 (by decide) (by decide) (by decide) (by decide)) en1_0 rfl ?_
    refine ev_get frX11_126 dX11_turnShort_36 (dom1 (by decide) (by decide) (by decide) (by decide)) en1_1 rfl ?_
    refine ev_iload_n (j := 2) dX11_turnShort_39 rfl rfl ?_
    obtain ⟨s14, s15, h16⟩ := h13
    refine ev_zald dX11_turnShort_40 (dom1 (by decide) (by decide) (by decide) (by decide)) ar1_4 (by decide) s14 s15 ?_
    obtain ⟨s17, h18⟩ := h16
    obtain ⟨h19, h20⟩ := h18
    refine ev_if_ne 55 dX11_turnShort_41 (by decide) s17 (fun c21 => ?_) (fun c21 => ?_)
    · have h22 := h19 c21
      refine ev_aload_n (j := 0) dX11_turnShort_55 rfl rfl ?_
      refine ev_get frX11_10 dX11_turnShort_56 dm0_0 en0_0 rfl ?_
      refine ev_iload_n (j := 1) dX11_turnShort_59 rfl rfl ?_
      refine ev_callVI (As := [iv v1]) (st := []) mfX4_arrivalOf mlX11_185 dX11_turnShort_60 rfl (dom1 (by decide) (by decide) (by decide) (by decide)) en1_0 rfl rfl rfl (by decide) (by decide) (by decide) (Nat.le_of_ble_eq_true rfl) (fun _ _ z => z.elim) h22 (fun x25 M23 h24 => ?_)
      refine ev_aload_n (j := 0) dX11_turnShort_63 rfl rfl ?_
      refine ev_get frX11_10 dX11_turnShort_64 dm0_0 en0_0 rfl ?_
      refine ev_iload_n (j := 1) dX11_turnShort_67 rfl rfl ?_
      refine ev_iload_n (j := 2) dX11_turnShort_68 rfl rfl ?_
      refine ev_callVI (As := [iv v1, iv v2]) (st := [iv x25]) mfX4_timeAt mlX11_206 dX11_turnShort_69 rfl (dom1 (by decide) (by decide) (by decide) (by decide)) en1_0 rfl rfl rfl (by decide) (by decide) (by decide) (Nat.le_of_ble_eq_true rfl) (fun _ _ z => z.elim) h24 (fun x28 M26 h27 => ?_)
      refine ev_isub dX11_turnShort_72 ?_
      refine ev_istore_n dX11_turnShort_73 rfl (by decide) rfl ?_
      refine ev_aload_n (j := 1) dX11_turnShort_74 rfl rfl ?_
      refine ev_get frX11_22 dX11_turnShort_75 dm0_0 en0_0 rfl ?_
      refine ev_aload_n (j := 1) dX11_turnShort_78 rfl rfl ?_
      refine ev_get frX11_10 dX11_turnShort_79 dm0_0 en0_0 rfl ?_
      refine ev_callVV (As := [rr G 1 0 0]) (st := []) mfX3_keep mlX11_130 dX11_turnShort_82 rfl dm2_0 en2_0 rfl rfl rfl (by decide) (by decide) (by decide) (Nat.le_of_ble_eq_true rfl) (fun _ _ z => z.elim) h27 (fun M29 h30 => ?_)
      refine ev_aload_n (j := 1) dX11_turnShort_85 rfl rfl ?_
      refine ev_get frX11_10 dX11_turnShort_86 dm0_0 en0_0 rfl ?_
      refine ev_get frX11_114 dX11_turnShort_89 (dom1 (by decide) (by decide) (by decide) (by decide)) en1_0 rfl ?_
      refine ev_get frX11_179 dX11_turnShort_92 (dom1 (by decide) (by decide) (by decide) (by decide)) en1_6 rfl ?_
      refine ev_iload_n (j := 2) dX11_turnShort_95 rfl rfl ?_
      refine ev_iload_n (j := 3) dX11_turnShort_96 rfl rfl ?_
      obtain ⟨s32, s33, h34⟩ := h30
      refine ev_iast dX11_turnShort_97 (dom1 (by decide) (by decide) (by decide) (by decide)) ar1_8 (by decide) s32 s33 ?_
      refine ev_aload_n (j := 1) dX11_turnShort_98 rfl rfl ?_
      refine ev_get frX11_10 dX11_turnShort_99 dm0_0 en0_0 rfl ?_
      refine ev_get frX11_166 dX11_turnShort_102 (dom1 (by decide) (by decide) (by decide) (by decide)) en1_0 rfl ?_
      refine ev_iload_n (j := 2) dX11_turnShort_105 rfl rfl ?_
      refine ev_callVV (As := [iv v1]) (st := []) mfX2_takeOutBehind mlX11_397 dX11_turnShort_106 rfl (dom1 (by decide) (by decide) (by decide) (by decide)) en1_11 rfl rfl rfl (by decide) (by decide) (by decide) (Nat.le_of_ble_eq_true rfl) (fun _ _ z => z.elim) h34 (fun M35 h36 => ?_)
      refine ev_iload_n (j := 0) dX11_turnShort_109 rfl rfl ?_
      exact ev_iret dX11_turnShort_110 (by decide) rfl h36
    · have h38 := h20 c21
      exact thrX11_turnShort_44 (by decide) h38
def eX11_unblock (G : GT) (K : List Value → Mem → Prop) (X : String → Mem → Prop) (pc : Nat) (lv : List (Nat × Value)) (st : List Value) (M : Mem) : Prop := Ex G zX11_unblock 9 1 K X 0 pc lv st M
set_option maxRecDepth 20000 in
set_option maxHeartbeats 4000000 in
theorem bX11_unblock {G : GT} {K : List Value → Mem → Prop} {X : String → Mem → Prop} {M : Mem} {v1 : Int} (h : Call G 8 1 zX11_requireIndex [iv v1, iv (M 1 0 25 3)] M (kV (fun M1 => Call G 3 0 zX3_keep [rr G 2 0 0, rr G 1 0 0] M1 (kV (fun M4 => Call G 0 0 zX0_removeBlock [rr G 1 0 25, iv v1] M4 (kV (fun M7 => K [iv (M7 1 0 25 3)] M7)) noX)) noX)) X) : Call G 9 1 zX11_unblock [rr G 0 0 0, iv v1] M K X := by
  refine call_intro (lv := [(0, rr G 0 0 0), (1, iv v1)]) (by decide) rfl (Nat.le_of_ble_eq_true rfl) rfl ?_
  refine ev_iload_n (j := 1) dX11_unblock_0 rfl rfl ?_
  refine ev_aload_n (j := 0) dX11_unblock_1 rfl rfl ?_
  refine ev_get frX11_10 dX11_unblock_2 dm0_0 en0_0 rfl ?_
  refine ev_get frX11_221 dX11_unblock_5 (dom1 (by decide) (by decide) (by decide) (by decide)) en1_0 rfl ?_
  refine ev_get frX11_225 dX11_unblock_8 (dom1 (by decide) (by decide) (by decide) (by decide)) en1_25 rfl ?_
  refine ev_callSV (As := [iv v1, iv (M 1 0 25 3)]) (st := []) mfX11_requireIndex mlX11_65 dX11_unblock_11 rfl rfl (by decide) (by decide) (by decide) (Nat.le_of_ble_eq_true rfl) (fun _ _ z => z) h (fun M1 h2 => ?_)
  refine ev_aload_n (j := 0) dX11_unblock_14 rfl rfl ?_
  refine ev_get frX11_22 dX11_unblock_15 dm0_0 en0_0 rfl ?_
  refine ev_aload_n (j := 0) dX11_unblock_18 rfl rfl ?_
  refine ev_get frX11_10 dX11_unblock_19 dm0_0 en0_0 rfl ?_
  refine ev_callVV (As := [rr G 1 0 0]) (st := []) mfX3_keep mlX11_130 dX11_unblock_22 rfl dm2_0 en2_0 rfl rfl rfl (by decide) (by decide) (by decide) (Nat.le_of_ble_eq_true rfl) (fun _ _ z => z.elim) h2 (fun M4 h5 => ?_)
  refine ev_aload_n (j := 0) dX11_unblock_25 rfl rfl ?_
  refine ev_get frX11_10 dX11_unblock_26 dm0_0 en0_0 rfl ?_
  refine ev_get frX11_221 dX11_unblock_29 (dom1 (by decide) (by decide) (by decide) (by decide)) en1_0 rfl ?_
  refine ev_iload_n (j := 1) dX11_unblock_32 rfl rfl ?_
  refine ev_callVV (As := [iv v1]) (st := []) mfX0_removeBlock mlX11_346 dX11_unblock_33 rfl (dom1 (by decide) (by decide) (by decide) (by decide)) en1_25 rfl rfl rfl (by decide) (by decide) (by decide) (Nat.le_of_ble_eq_true rfl) (fun _ _ z => z.elim) h5 (fun M7 h8 => ?_)
  refine ev_aload_n (j := 0) dX11_unblock_36 rfl rfl ?_
  refine ev_get frX11_10 dX11_unblock_37 dm0_0 en0_0 rfl ?_
  refine ev_get frX11_221 dX11_unblock_40 (dom1 (by decide) (by decide) (by decide) (by decide)) en1_0 rfl ?_
  refine ev_get frX11_225 dX11_unblock_43 (dom1 (by decide) (by decide) (by decide) (by decide)) en1_25 rfl ?_
  exact ev_iret dX11_unblock_46 (by decide) rfl h8
def eX11_undo (G : GT) (K : List Value → Mem → Prop) (X : String → Mem → Prop) (pc : Nat) (lv : List (Nat × Value)) (st : List Value) (M : Mem) : Prop := Ex G zX11_undo 8 1 K X 0 pc lv st M
set_option maxRecDepth 20000 in
set_option maxHeartbeats 4000000 in
theorem bX11_undo {G : GT} {K : List Value → Mem → Prop} {X : String → Mem → Prop} {M : Mem} (h : I32 (M 2 0 0 2) ∧ ((¬ (M 2 0 0 2) = 0 → Call G 3 0 zX3_takeBack [rr G 2 0 0, rr G 1 0 0] M (kV (fun M7 => K [iv (M7 2 0 0 2)] M7)) noX) ∧ ((M 2 0 0 2) = 0 → X "java/lang/IllegalStateException" M))) : Call G 8 1 zX11_undo [rr G 0 0 0] M K X := by
  refine call_intro (lv := [(0, rr G 0 0 0)]) (by decide) rfl (Nat.le_of_ble_eq_true rfl) rfl ?_
  refine ev_aload_n (j := 0) dX11_undo_0 rfl rfl ?_
  refine ev_get frX11_22 dX11_undo_1 dm0_0 en0_0 rfl ?_
  refine ev_get frX11_451 dX11_undo_4 dm2_0 en2_0 rfl ?_
  obtain ⟨s1, h2⟩ := h
  obtain ⟨h3, h4⟩ := h2
  refine ev_if_ne 21 dX11_undo_7 (by decide) s1 (fun c5 => ?_) (fun c5 => ?_)
  · have h6 := h3 c5
    refine ev_aload_n (j := 0) dX11_undo_21 rfl rfl ?_
    refine ev_get frX11_22 dX11_undo_22 dm0_0 en0_0 rfl ?_
    refine ev_aload_n (j := 0) dX11_undo_25 rfl rfl ?_
    refine ev_get frX11_10 dX11_undo_26 dm0_0 en0_0 rfl ?_
    refine ev_callVV (As := [rr G 1 0 0]) (st := []) mfX3_takeBack mlX11_454 dX11_undo_29 rfl dm2_0 en2_0 rfl rfl rfl (by decide) (by decide) (by decide) (Nat.le_of_ble_eq_true rfl) (fun _ _ z => z.elim) h6 (fun M7 h8 => ?_)
    refine ev_aload_n (j := 0) dX11_undo_32 rfl rfl ?_
    refine ev_get frX11_22 dX11_undo_33 dm0_0 en0_0 rfl ?_
    refine ev_get frX11_451 dX11_undo_36 dm2_0 en2_0 rfl ?_
    exact ev_iret dX11_undo_39 (by decide) rfl h8
  · have h10 := h4 c5
    exact thrX11_undo_10 (by decide) h10
def eX11_vehicle (G : GT) (K : List Value → Mem → Prop) (X : String → Mem → Prop) (pc : Nat) (lv : List (Nat × Value)) (st : List Value) (M : Mem) : Prop := Ex G zX11_vehicle 9 2 K X 0 pc lv st M
set_option maxRecDepth 20000 in
set_option maxHeartbeats 4000000 in
theorem bX11_vehicle {G : GT} {K : List Value → Mem → Prop} {X : String → Mem → Prop} {M : Mem} {v1 v2 : Int} (h : Call G 8 1 zX11_requireIndex [iv v1, iv (M 1 0 11 3)] M (kV (fun M1 => I32 v2 ∧ ((v2 = 0 → 0 ≤ v1 ∧ v1 < 10 ∧ K [iv (M1 1 0 12 v1)] M1) ∧ (v2 = 1 → 0 ≤ v1 ∧ v1 < 10 ∧ K [iv (M1 1 0 13 v1)] M1) ∧ (v2 = 2 → Call G 2 0 zX4_minutesOfTrips [rr G 1 0 0, iv v1] M1 (kI (fun x25 M23 => K [iv x25] M23)) noX) ∧ (v2 = 3 → Call G 2 0 zX4_minutesBetweenTrips [rr G 1 0 0, iv v1] M1 (kI (fun x29 M27 => K [iv x29] M27)) noX) ∧ (v2 = 4 → Call G 0 0 zX2_placeOf [rr G 1 0 11, iv v1] M1 (kI (fun x33 M31 => K [iv x33] M31)) noX) ∧ (v2 = 5 → Call G 1 0 zX4_isBoxedIn [rr G 1 0 0, iv v1] M1 (kI (fun x37 M35 => I32 x37 ∧ ((x37 = 0 → K [iv 0] M35) ∧ (¬ x37 = 0 → K [iv 1] M35)))) noX) ∧ (v2 = 6 → Call G 1 0 zX4_endStopOf [rr G 1 0 0, iv v1] M1 (kI (fun x48 M46 => K [iv x48] M46)) noX) ∧ ((v2 < 0 ∨ 6 < v2) → X "java/lang/IllegalArgumentException" M1)))) X) : Call G 9 2 zX11_vehicle [rr G 0 0 0, iv v1, iv v2] M K X := by
  refine call_intro (lv := [(0, rr G 0 0 0), (1, iv v1), (2, iv v2)]) (by decide) rfl (Nat.le_of_ble_eq_true rfl) rfl ?_
  refine ev_iload_n (j := 1) dX11_vehicle_0 rfl rfl ?_
  refine ev_aload_n (j := 0) dX11_vehicle_1 rfl rfl ?_
  refine ev_get frX11_10 dX11_vehicle_2 dm0_0 en0_0 rfl ?_
  refine ev_get frX11_166 dX11_vehicle_5 (dom1 (by decide) (by decide) (by decide) (by decide)) en1_0 rfl ?_
  refine ev_get frX11_217 dX11_vehicle_8 (dom1 (by decide) (by decide) (by decide) (by decide)) en1_11 rfl ?_
  refine ev_callSV (As := [iv v1, iv (M 1 0 11 3)]) (st := []) mfX11_requireIndex mlX11_65 dX11_vehicle_11 rfl rfl (by decide) (by decide) (by decide) (Nat.le_of_ble_eq_true rfl) (fun _ _ z => z) h (fun M1 h2 => ?_)
  refine ev_iload_n (j := 2) dX11_vehicle_14 rfl rfl ?_
  obtain ⟨s4, h5⟩ := h2
  obtain ⟨h6, h7, h8, h9, h10, h11, h12, h13⟩ := h5
  refine ev_tsw dX11_vehicle_15 s4 (by decide) (fun j9 o9 hj9 ha9 t9 ht9 _ => ?_) (fun j9 o9 hj9 => ?_) (fun c9 t9 ht9 => ?_) (by decide)
  · have hb9 : j9 < 7 := (Array.getElem?_eq_some_iff.mp hj9).1
    rcases (show j9 = 0 ∨ j9 = 1 ∨ j9 = 2 ∨ j9 = 3 ∨ j9 = 4 ∨ j9 = 5 ∨ j9 = 6 by omega) with rfl | rfl | rfl | rfl | rfl | rfl | rfl
    · obtain rfl : o9 = (41 : Int) := (Option.some.inj (show some (41 : Int) = some o9 from hj9)).symm
      obtain rfl : t9 = 56 := by omega
      have h14 := h6 (by omega)
      refine ev_aload_n (j := 0) dX11_vehicle_56 rfl rfl ?_
      refine ev_get frX11_10 dX11_vehicle_57 dm0_0 en0_0 rfl ?_
      refine ev_get frX11_166 dX11_vehicle_60 (dom1 (by decide) (by decide) (by decide) (by decide)) en1_0 rfl ?_
      refine ev_get frX11_313 dX11_vehicle_63 (dom1 (by decide) (by decide) (by decide) (by decide)) en1_11 rfl ?_
      refine ev_iload_n (j := 1) dX11_vehicle_66 rfl rfl ?_
      obtain ⟨s15, s16, h17⟩ := h14
      refine ev_iald dX11_vehicle_67 (dom1 (by decide) (by decide) (by decide) (by decide)) ar1_12 (by decide) s15 s16 ?_
      exact ev_iret dX11_vehicle_68 (by decide) rfl h17
    · obtain rfl : o9 = (54 : Int) := (Option.some.inj (show some (54 : Int) = some o9 from hj9)).symm
      obtain rfl : t9 = 69 := by omega
      have h18 := h7 (by omega)
      refine ev_aload_n (j := 0) dX11_vehicle_69 rfl rfl ?_
      refine ev_get frX11_10 dX11_vehicle_70 dm0_0 en0_0 rfl ?_
      refine ev_get frX11_166 dX11_vehicle_73 (dom1 (by decide) (by decide) (by decide) (by decide)) en1_0 rfl ?_
      refine ev_get frX11_304 dX11_vehicle_76 (dom1 (by decide) (by decide) (by decide) (by decide)) en1_11 rfl ?_
      refine ev_iload_n (j := 1) dX11_vehicle_79 rfl rfl ?_
      obtain ⟨s19, s20, h21⟩ := h18
      refine ev_iald dX11_vehicle_80 (dom1 (by decide) (by decide) (by decide) (by decide)) ar1_13 (by decide) s19 s20 ?_
      exact ev_iret dX11_vehicle_81 (by decide) rfl h21
    · obtain rfl : o9 = (67 : Int) := (Option.some.inj (show some (67 : Int) = some o9 from hj9)).symm
      obtain rfl : t9 = 82 := by omega
      have h22 := h8 (by omega)
      refine ev_aload_n (j := 0) dX11_vehicle_82 rfl rfl ?_
      refine ev_get frX11_10 dX11_vehicle_83 dm0_0 en0_0 rfl ?_
      refine ev_iload_n (j := 1) dX11_vehicle_86 rfl rfl ?_
      refine ev_callVI (As := [iv v1]) (st := []) mfX4_minutesOfTrips mlX11_316 dX11_vehicle_87 rfl (dom1 (by decide) (by decide) (by decide) (by decide)) en1_0 rfl rfl rfl (by decide) (by decide) (by decide) (Nat.le_of_ble_eq_true rfl) (fun _ _ z => z.elim) h22 (fun x25 M23 h24 => ?_)
      exact ev_iret dX11_vehicle_90 (by decide) rfl h24
    · obtain rfl : o9 = (76 : Int) := (Option.some.inj (show some (76 : Int) = some o9 from hj9)).symm
      obtain rfl : t9 = 91 := by omega
      have h26 := h9 (by omega)
      refine ev_aload_n (j := 0) dX11_vehicle_91 rfl rfl ?_
      refine ev_get frX11_10 dX11_vehicle_92 dm0_0 en0_0 rfl ?_
      refine ev_iload_n (j := 1) dX11_vehicle_95 rfl rfl ?_
      refine ev_callVI (As := [iv v1]) (st := []) mfX4_minutesBetweenTrips mlX11_319 dX11_vehicle_96 rfl (dom1 (by decide) (by decide) (by decide) (by decide)) en1_0 rfl rfl rfl (by decide) (by decide) (by decide) (Nat.le_of_ble_eq_true rfl) (fun _ _ z => z.elim) h26 (fun x29 M27 h28 => ?_)
      exact ev_iret dX11_vehicle_99 (by decide) rfl h28
    · obtain rfl : o9 = (85 : Int) := (Option.some.inj (show some (85 : Int) = some o9 from hj9)).symm
      obtain rfl : t9 = 100 := by omega
      have h30 := h10 (by omega)
      refine ev_aload_n (j := 0) dX11_vehicle_100 rfl rfl ?_
      refine ev_get frX11_10 dX11_vehicle_101 dm0_0 en0_0 rfl ?_
      refine ev_get frX11_166 dX11_vehicle_104 (dom1 (by decide) (by decide) (by decide) (by decide)) en1_0 rfl ?_
      refine ev_iload_n (j := 1) dX11_vehicle_107 rfl rfl ?_
      refine ev_callVI (As := [iv v1]) (st := []) mfX2_placeOf mlX11_322 dX11_vehicle_108 rfl (dom1 (by decide) (by decide) (by decide) (by decide)) en1_11 rfl rfl rfl (by decide) (by decide) (by decide) (Nat.le_of_ble_eq_true rfl) (fun _ _ z => z.elim) h30 (fun x33 M31 h32 => ?_)
      exact ev_iret dX11_vehicle_111 (by decide) rfl h32
    · obtain rfl : o9 = (97 : Int) := (Option.some.inj (show some (97 : Int) = some o9 from hj9)).symm
      obtain rfl : t9 = 112 := by omega
      have h34 := h11 (by omega)
      refine ev_aload_n (j := 0) dX11_vehicle_112 rfl rfl ?_
      refine ev_get frX11_10 dX11_vehicle_113 dm0_0 en0_0 rfl ?_
      refine ev_iload_n (j := 1) dX11_vehicle_116 rfl rfl ?_
      refine ev_callVI (As := [iv v1]) (st := []) mfX4_isBoxedIn mlX11_325 dX11_vehicle_117 rfl (dom1 (by decide) (by decide) (by decide) (by decide)) en1_0 rfl rfl rfl (by decide) (by decide) (by decide) (Nat.le_of_ble_eq_true rfl) (fun _ _ z => z.elim) h34 (fun x37 M35 h36 => ?_)
      obtain ⟨s38, h39⟩ := h36
      obtain ⟨h40, h41⟩ := h39
      refine ev_if_eq 127 dX11_vehicle_120 (by decide) s38 (fun c42 => ?_) (fun c42 => ?_)
      · have h43 := h40 c42
        refine ev_iconst dX11_vehicle_127 ?_
        exact ev_iret dX11_vehicle_128 (by decide) rfl h43
      · have h44 := h41 c42
        refine ev_iconst dX11_vehicle_123 ?_
        refine ev_goto 128 dX11_vehicle_124 (by decide) ?_
        exact ev_iret dX11_vehicle_128 (by decide) rfl h44
    · obtain rfl : o9 = (114 : Int) := (Option.some.inj (show some (114 : Int) = some o9 from hj9)).symm
      obtain rfl : t9 = 129 := by omega
      have h45 := h12 (by omega)
      refine ev_aload_n (j := 0) dX11_vehicle_129 rfl rfl ?_
      refine ev_get frX11_10 dX11_vehicle_130 dm0_0 en0_0 rfl ?_
      refine ev_iload_n (j := 1) dX11_vehicle_133 rfl rfl ?_
      refine ev_callVI (As := [iv v1]) (st := []) mfX4_endStopOf mlX11_328 dX11_vehicle_134 rfl (dom1 (by decide) (by decide) (by decide) (by decide)) en1_0 rfl rfl rfl (by decide) (by decide) (by decide) (Nat.le_of_ble_eq_true rfl) (fun _ _ z => z.elim) h45 (fun x48 M46 h47 => ?_)
      exact ev_iret dX11_vehicle_137 (by decide) rfl h47
  · have hb9 : j9 < 7 := (Array.getElem?_eq_some_iff.mp hj9).1
    rcases (show j9 = 0 ∨ j9 = 1 ∨ j9 = 2 ∨ j9 = 3 ∨ j9 = 4 ∨ j9 = 5 ∨ j9 = 6 by omega) with rfl | rfl | rfl | rfl | rfl | rfl | rfl <;> (have hj8 := Option.some.inj hj9; revert hj8; intro hj8; subst hj8; decide)
  · obtain rfl : t9 = 138 := by omega
    have h49 := h13 c9
    exact thrX11_vehicle_138 (by decide) h49
def eX11_wouldRefuse (G : GT) (K : List Value → Mem → Prop) (X : String → Mem → Prop) (pc : Nat) (lv : List (Nat × Value)) (st : List Value) (M : Mem) : Prop := Ex G zX11_wouldRefuse 9 2 K X 0 pc lv st M
set_option maxRecDepth 20000 in
set_option maxHeartbeats 4000000 in
theorem bX11_wouldRefuse {G : GT} {K : List Value → Mem → Prop} {X : String → Mem → Prop} {M : Mem} {v1 v2 : Int} (h : Call G 8 1 zX11_requireIndex [iv v1, iv (M 1 0 6 4)] M (kV (fun M1 => Call G 8 1 zX11_requireIndex [iv v2, iv (M1 1 0 11 3)] M1 (kV (fun M4 => Call G 4 0 zX4_reasonAgainst [rr G 1 0 0, iv v1, iv v2] M4 (kI (fun x9 M7 => K [iv x9] M7)) noX)) X)) X) : Call G 9 2 zX11_wouldRefuse [rr G 0 0 0, iv v1, iv v2] M K X := by
  refine call_intro (lv := [(0, rr G 0 0 0), (1, iv v1), (2, iv v2)]) (by decide) rfl (Nat.le_of_ble_eq_true rfl) rfl ?_
  refine ev_iload_n (j := 1) dX11_wouldRefuse_0 rfl rfl ?_
  refine ev_aload_n (j := 0) dX11_wouldRefuse_1 rfl rfl ?_
  refine ev_get frX11_10 dX11_wouldRefuse_2 dm0_0 en0_0 rfl ?_
  refine ev_get frX11_114 dX11_wouldRefuse_5 (dom1 (by decide) (by decide) (by decide) (by decide)) en1_0 rfl ?_
  refine ev_get frX11_149 dX11_wouldRefuse_8 (dom1 (by decide) (by decide) (by decide) (by decide)) en1_6 rfl ?_
  refine ev_callSV (As := [iv v1, iv (M 1 0 6 4)]) (st := []) mfX11_requireIndex mlX11_65 dX11_wouldRefuse_11 rfl rfl (by decide) (by decide) (by decide) (Nat.le_of_ble_eq_true rfl) (fun _ _ z => z) h (fun M1 h2 => ?_)
  refine ev_iload_n (j := 2) dX11_wouldRefuse_14 rfl rfl ?_
  refine ev_aload_n (j := 0) dX11_wouldRefuse_15 rfl rfl ?_
  refine ev_get frX11_10 dX11_wouldRefuse_16 dm0_0 en0_0 rfl ?_
  refine ev_get frX11_166 dX11_wouldRefuse_19 (dom1 (by decide) (by decide) (by decide) (by decide)) en1_0 rfl ?_
  refine ev_get frX11_217 dX11_wouldRefuse_22 (dom1 (by decide) (by decide) (by decide) (by decide)) en1_11 rfl ?_
  refine ev_callSV (As := [iv v2, iv (M1 1 0 11 3)]) (st := []) mfX11_requireIndex mlX11_65 dX11_wouldRefuse_25 rfl rfl (by decide) (by decide) (by decide) (Nat.le_of_ble_eq_true rfl) (fun _ _ z => z) h2 (fun M4 h5 => ?_)
  refine ev_aload_n (j := 0) dX11_wouldRefuse_28 rfl rfl ?_
  refine ev_get frX11_10 dX11_wouldRefuse_29 dm0_0 en0_0 rfl ?_
  refine ev_iload_n (j := 1) dX11_wouldRefuse_32 rfl rfl ?_
  refine ev_iload_n (j := 2) dX11_wouldRefuse_33 rfl rfl ?_
  refine ev_callVI (As := [iv v1, iv v2]) (st := []) mfX4_reasonAgainst mlX11_268 dX11_wouldRefuse_34 rfl (dom1 (by decide) (by decide) (by decide) (by decide)) en1_0 rfl rfl rfl (by decide) (by decide) (by decide) (Nat.le_of_ble_eq_true rfl) (fun _ _ z => z.elim) h5 (fun x9 M7 h8 => ?_)
  exact ev_iret dX11_wouldRefuse_37 (by decide) rfl h8
